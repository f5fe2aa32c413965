import java.util.function.Supplier;

/** Promises 21 to 26, 28 to 30: who means it, names that are one ship or two, the berth, images, what is told. */
public final class NamesBoundsTest {
    private static final Bench BENCH = new Bench("NamesBoundsTest");
    private static final int UNKNOWN = Bench.UNKNOWN, OUTSIDE = Bench.OUTSIDE, STATE = Bench.STATE, FULL = Bench.FULL,
            NONE = Bench.NONE;
    private static final long GONE = Bench.GONE;

    public static void main(String[] args) {
        meantBounds();
        meantLosses();
        meantByNeither();
        taleBounds();
        talesAtMost();
        forgotten();
        brokenBounds();
        brokenPlaces();
        brokenLeftOut();
        onesAtLeast();
        onesOfOthers();
        berthBounds();
        berthByTurns();
        imageBounds();
        imageOfEach();
        imageOfTales();
        imageNotOfPad();
        imagesApart();
        toldBounds();
        toldOfShips();
        BENCH.end();
    }

    private static void due(String call, long got, long want) {
        BENCH.due(call, got, want);
    }

    // ---- promise 21

    private static void meantBounds() {
        for (int each = 0; each < 2; each++) {
            int part = each;
            BENCH.sentence("promise 21", "p, q 0 to 100");
            BENCH.bounds("meant, p", Bench::fleet, (x, p) -> x.meant(p, 50, 1, 1, part), 0, 100, GONE + OUTSIDE,
                    p -> Bench.part(50, 50 + p, part));
            BENCH.bounds("meant, q", Bench::fleet, (x, q) -> x.meant(50, q, 1, 1, part), 0, 100, GONE + OUTSIDE,
                    q -> Bench.part(q, 50 + q, part));
            BENCH.sentence("promise 21", "n voyages (0 to 6)");
            BENCH.bounds("meant, n", Bench::fleet, (x, n) -> x.meant(25, 75, n, 0, part), 0, 6, GONE + OUTSIDE,
                    n -> Bench.part(1, 1 + (long) Math.pow(3, n), part));
            BENCH.sentence("promise 21", "s (0 to n)");
            for (int voyages = 0; voyages <= 6; voyages++) {
                int n = voyages;
                BENCH.bounds("meant, s of " + n, Bench::fleet, (x, s) -> x.meant(25, 75, n, s, part), 0, n,
                        GONE + OUTSIDE, s -> Bench.part((long) Math.pow(3, s), (long) (Math.pow(3, s) + Math.pow(3, n - s)), part));
            }
        }
        BENCH.refused("meant, n below s", Bench::fleet, x -> x.meant(1, 1, -1, -1, 0), GONE + OUTSIDE);
        BENCH.refused("meant, n above 6", Bench::fleet, x -> x.meant(1, 1, 7, 7, 0), GONE + OUTSIDE);
    }

    private static void meant(int p, int q, int n, int s, long upper, long lower) {
        BENCH.fraction("meant(" + p + ", " + q + ", " + n + ", " + s + ")", BelowWorth::new,
                (x, part) -> x.meant(p, q, n, s, part), upper, lower);
    }

    private static void meantLosses() {
        BENCH.sentence("promise 21", "if of n voyages s were lost: a fraction");
        for (int n = 0; n <= 6; n++) {
            for (int s = 0; s <= n; s++) {
                // The likelier one of the two by how much oftener a voyage goes so.
                meant(40, 40, n, s, 1, 2);
                meant(20, 80, n, s, power(4, s), power(4, s) + power(4, n - s));
                meant(80, 20, n, s, power(4, n - s), power(4, s) + power(4, n - s));
                meant(10, 30, n, s, power(3, s) * power(7, n - s), power(3, s) * power(7, n - s) + power(9, n - s));
            }
        }
        meant(1, 99, 6, 6, 941480149401L, 941480149402L);
        meant(99, 1, 6, 6, 1, 941480149402L);
        meant(99, 100, 6, 6, 1000000000000L, 1941480149401L);
    }

    private static long power(long base, int times) {
        long product = 1;
        for (int time = 0; time < times; time++) {
            product *= base;
        }
        return product;
    }

    private static void meantByNeither() {
        BENCH.sentence("promise 21", "(0, if neither can be)");
        for (int n = 0; n <= 6; n++) {
            // None lost of none is nothing that can not be.
            meant(0, 0, n, 0, 1, 2);
            meant(100, 100, n, n, 1, 2);
            meant(0, 100, n, 0, n == 0 ? 1 : 0, n == 0 ? 2 : 1);
            meant(100, 0, n, 0, 1, n == 0 ? 2 : 1);
            meant(0, 100, n, n, 1, n == 0 ? 2 : 1);
            meant(100, 0, n, n, n == 0 ? 1 : 0, n == 0 ? 2 : 1);
            for (int s = 1; s <= n; s++) {
                meant(0, 0, n, s, 0, 1);
                meant(100, 100, n, n - s, 0, 1);
                meant(0, 1, n, s, 1, 1);
                meant(1, 0, n, s, 0, 1);
            }
            for (int s = 1; s < n; s++) {
                meant(0, 100, n, s, 0, 1);
                meant(100, 0, n, s, 0, 1);
                meant(100, 99, n, s, 1, 1);
            }
        }
    }

    // ---- promises 22 and 23

    private static void taleBounds() {
        BENCH.sentence("promise 22", "NAMES (0 to 7). UNKNOWN: a NAME");
        for (boolean same : new boolean[] {true, false}) {
            BENCH.bounds("tale, one", BelowWorth::new, (x, v) -> x.tale(v, 3, same), 0, 7, UNKNOWN, v -> 1);
            BENCH.bounds("tale, two", BelowWorth::new, (x, v) -> x.tale(3, v, same), 0, 7, UNKNOWN, v -> 1);
            BENCH.sentence("promise 22", "UNKNOWN: both one");
            for (int each = 0; each <= 7; each++) {
                int name = each;
                BENCH.refused("tale of one NAME", BelowWorth::new, x -> x.tale(name, name, same), UNKNOWN);
                BENCH.answers("tale of two NAMES", BelowWorth::new, x -> x.tale(name, 7 - name, same), 1);
            }
            BENCH.refused("tale of NAMES -1", BelowWorth::new, x -> x.tale(-1, -1, same), UNKNOWN);
            BENCH.refused("tale of NAMES 8", BelowWorth::new, x -> x.tale(8, 8, same), UNKNOWN);
        }
    }

    /** So many TALES, all of two ships: of 0 and 1, of 1 and 2, up to 6 and 7, then of 0 and 1 again. */
    private static BelowWorth withMany(int tales) {
        BelowWorth x = new BelowWorth();
        for (int tale = 0; tale < tales; tale++) {
            x.tale(tale % 7, tale % 7 + 1, false);
        }
        return x;
    }

    private static void talesAtMost() {
        BENCH.sentence("promise 22", "TALES, 8 at most: how many; FULL");
        for (int tales = 0; tales < 8; tales++) {
            int many = tales;
            BENCH.answers("tale", () -> withMany(many), x -> x.tale(0, 7, true), many + 1);
            due("told(6)", withMany(many).told(6), many);
        }
        BENCH.refused("the ninth", () -> withMany(8), x -> x.tale(0, 7, true), FULL);
        BelowWorth x = withMany(7);
        due("the eighth", x.tale(0, 1, true), 8);
        due("the eighth is heard", x.broken(0), 7);
        due("the ninth", x.tale(1, 2, true), FULL);
        due("the ninth is not heard", x.broken(1), 1);
        due("told(6)", x.told(6), 8);
    }

    private static void forgotten() {
        BENCH.sentence("promise 23", "TALES go: how many there were");
        for (int tales = 0; tales <= 8; tales++) {
            BelowWorth x = withMany(tales);
            x.tale(0, 1, true);
            // What is asked ahead of it has to be forgotten too.
            due("ones()", x.ones(), tales == 0 ? 1 : 2);
            due("broken(1)", x.broken(1), tales > 0 && tales < 8 ? 1 : 0);
            due("forget()", x.forget(), Math.min(tales + 1, 8));
            due("forget() again", x.forget(), 0);
            due("told(6)", x.told(6), 0);
            due("broken(0)", x.broken(0), NONE);
            due("broken(1)", x.broken(1), 0);
            due("ones()", x.ones(), 1);
            due("tale", x.tale(0, 1, true), 1);
            due("broken(1)", x.broken(1), 0);
            due("ones()", x.ones(), 1);
        }
    }

    // ---- promises 24 and 25

    private static BelowWorth withTales(String tales) {
        BelowWorth x = new BelowWorth();
        tellTales(x, tales);
        return x;
    }

    /** TALES as "01=" (one ship) or "01!" (two). */
    private static void tellTales(BelowWorth x, String tales) {
        int told = 0;
        for (String tale : tales.isEmpty() ? new String[0] : tales.split(" ")) {
            told++;
            due("tale " + tale, x.tale(tale.charAt(0) - '0', tale.charAt(1) - '0', tale.charAt(2) == '='), told);
        }
    }

    private static void broken(String tales, int first, int many) {
        int[] both = {first, many};
        BENCH.bounds("broken of " + tales, () -> withTales(tales), (x, v) -> x.broken(v), 0, 1, OUTSIDE, v -> both[v]);
    }

    private static void brokenBounds() {
        BENCH.sentence("promise 24", "the TALE (what = 0, from 0 on; NONE), how many (1). OUTSIDE");
        broken("", NONE, 0);
        broken("01=", NONE, 0);
        broken("01!", NONE, 0);
        broken("01= 10= 01=", NONE, 0);
        broken("01! 10! 01!", NONE, 0);
        broken("01= 10!", 1, 1);
        broken("70! 07=", 1, 1);
    }

    private static void brokenPlaces() {
        BENCH.sentence("promise 24", "the first TALE that can not be true with all that are ahead of it and true so far");
        // Each way that it can be known only from several: one ship by a chain, two by a chain on either side.
        broken("01= 12= 20!", 2, 1);
        broken("01= 12= 23= 34= 45= 56= 67= 07!", 7, 1);
        broken("67= 56= 45= 34= 23= 12= 01= 70!", 7, 1);
        broken("01= 34= 03! 14=", 3, 1);
        broken("03! 01= 34= 41=", 3, 1);
        broken("01= 03! 34= 14=", 3, 1);
        broken("76= 43= 73! 46=", 3, 1);
        broken("34= 13! 01= 40=", 3, 1);
        broken("01= 23= 45= 02! 24! 04= 13! 35=", 7, 1);
        // Two ships each are no TALE of one: 0 and 2 may be one ship.
        broken("01! 12! 02=", NONE, 0);
        broken("01! 12! 02= 20!", 3, 1);
        broken("01! 23! 02= 13= 03!", NONE, 0);
        broken("01! 23! 02= 13= 03=", 4, 1);
    }

    private static void brokenLeftOut() {
        BENCH.sentence("promise 24", "(which are left out if they can not be); how many are left out");
        broken("01= 01! 01! 01! 01! 01! 01! 01!", 1, 7);
        broken("01! 01= 01= 01= 01= 01= 01= 01=", 1, 7);
        broken("01= 01! 01= 01! 01= 01! 01= 01!", 1, 4);
        broken("01! 12= 23= 34= 45= 56= 67= 07=", 7, 1);
        // What is left out does not tell against what is behind it.
        broken("01= 01! 12! 02!", 1, 1);
        broken("01= 01! 12= 02=", 1, 1);
        broken("01! 01= 12= 02!", 1, 1);
        broken("01! 01= 12= 02=", 1, 2);
        broken("01! 12= 02= 23= 03! 13!", 2, 2);
        broken("01! 12= 02= 23= 03= 13!", 2, 3);
    }

    private static void ones(String tales, int want) {
        BENCH.answers("ones() of " + tales, () -> withTales(tales), x -> x.ones(), want);
    }

    private static void onesAtLeast() {
        BENCH.sentence("promise 25", "how many ships there are at the least (all eight NAMES are some ship's)");
        ones("", 1);
        ones("01= 12= 23= 34= 45= 56= 67=", 1);
        ones("01!", 2);
        ones("70!", 2);
        ones("01! 23! 45! 67!", 2);
        ones("01! 02! 03! 04! 05! 06! 07!", 2);
        ones("01! 12! 23! 34! 45! 56! 67! 70!", 2);
        ones("01! 12! 23! 34! 45! 56! 60!", 3);
        ones("01! 12! 23! 34! 40!", 3);
        ones("01! 12! 23! 30!", 2);
        ones("01! 12! 20!", 3);
        ones("01! 12! 20! 34! 45! 53! 67!", 3);
        BENCH.sentence("promise 25", "four, the most that 8 TALES can tell");
        ones("01! 02! 03! 12! 13!", 3);
        ones("01! 02! 03! 12! 13! 23!", 4);
        ones("76! 75! 74! 65! 64! 54! 73! 63!", 4);
        ones("04! 05! 15! 16! 46! 01= 45! 56!", 4);
        ones("01! 02! 03! 04! 12! 13! 14! 23!", 4);
        // Five in a ring, and one that is none of three of them.
        ones("01! 12! 23! 34! 40! 50! 52! 53!", 3);
    }

    private static void onesOfOthers() {
        BENCH.sentence("promise 25", "by all that are not left out");
        ones("01= 01!", 1);
        ones("01! 01=", 2);
        ones("01= 12= 02! 34!", 2);
        ones("01! 12! 02= 20!", 2);
        ones("01= 02= 12! 13! 23! 03!", 2);
        ones("01! 02! 12! 12= 03! 13! 23!", 4);
        ones("12= 01! 02! 12! 03! 13! 23!", 3);
        ones("01= 23= 45= 02! 24! 40!", 3);
        ones("02! 24! 40! 01= 23= 45=", 3);
        ones("12! 34! 50! 01= 23= 45=", 3);
        ones("12! 34! 50! 01= 23= 45= 14=", 3);
        ones("12! 34! 01= 23= 45= 14=", 2);
        ones("67! 57! 56! 47! 46! 45! 07= 17=", 4);
        // 3 is told of as another than 2 before 2 is one with 1: it may be the ship of 0 all the same.
        ones("01! 23! 12=", 2);
        ones("23! 01! 21=", 2);
        ones("01! 12= 23!", 2);
        ones("01! 23! 12= 03!", 3);
    }

    // ---- promise 26

    private static void berthBounds() {
        BENCH.sentence("promise 26", "v (1 to 99), each 1 to k (1 to 9) more; whether (what = 0), the bid (1; NONE). OUTSIDE");
        // Whether who begins with k 1 wins turns with each v; with v 11 the bid is what is left over of 10.
        BENCH.bounds("berth, v", Bench::fleet, (x, v) -> x.berth(v, 1, 0), 1, 99, OUTSIDE, v -> (v + 1) % 2);
        BENCH.bounds("berth, v", Bench::fleet, (x, v) -> x.berth(v, 1, 1), 1, 99, OUTSIDE, v -> v % 2 == 0 ? 1 : NONE);
        BENCH.bounds("berth, k", Bench::fleet, (x, k) -> x.berth(11, k, 0), 1, 9, OUTSIDE, k -> k == 1 || k == 9 ? 0 : 1);
        BENCH.bounds("berth, k", Bench::fleet, (x, k) -> x.berth(11, k, 1), 1, 9, OUTSIDE, k -> k == 2 || k == 8 ? 1 : NONE);
        BENCH.bounds("berth, what", Bench::fleet, (x, what) -> x.berth(13, 4, what), 0, 1, OUTSIDE, what -> what == 0 ? 1 : 2);
        BENCH.bounds("berth, what", Bench::fleet, (x, what) -> x.berth(11, 4, what), 0, 1, OUTSIDE, what -> what == 0 ? 0 : NONE);
    }

    private static void berth(int v, int k, int bid) {
        String call = "berth(" + v + ", " + k;
        BENCH.answers(call + ", 0)", BelowWorth::new, x -> x.berth(v, k, 0), bid == NONE ? 0 : 1);
        BENCH.answers(call + ", 1)", BelowWorth::new, x -> x.berth(v, k, 1), bid);
    }

    private static void berthByTurns() {
        BENCH.sentence("promise 26", "whether who begins can win by not coming there; his first bid, the least (NONE)");
        for (int k = 1; k <= 9; k++) {
            // At 1 any bid comes there; up to k + 1 he bids all but 1 of it; then all is lost again.
            berth(1, k, NONE);
            for (int v = 2; v <= k + 1; v++) {
                berth(v, k, v - 1);
            }
            for (int turn = 1; turn * (k + 1) + 2 <= 99; turn++) {
                berth(turn * (k + 1), k, k);
                berth(turn * (k + 1) + 1, k, NONE);
                berth(turn * (k + 1) + 2, k, 1);
            }
        }
        berth(99, 1, NONE);
        berth(98, 1, 1);
        berth(99, 9, 8);
        berth(91, 9, NONE);
    }

    // ---- promises 28 and 29

    private static BelowWorth withImages() {
        BelowWorth x = Bench.fleet();
        x.image(0);
        x.image(1);
        return x;
    }

    private static void imageBounds() {
        BENCH.sentence("promise 28", "an IMAGE (0, 1): 1. OUTSIDE");
        BENCH.bounds("image", BelowWorth::new, (x, k) -> x.image(k), 0, 1, OUTSIDE, k -> 1);
        BENCH.bounds("image", NamesBoundsTest::withImages, (x, k) -> x.image(k), 0, 1, OUTSIDE, k -> 1);
        BENCH.sentence("promise 29", "1. OUTSIDE; STATE: it was not");
        BENCH.bounds("restore, none kept", Bench::fleet, (x, k) -> x.restore(k), 0, 1, OUTSIDE, k -> STATE);
        BENCH.bounds("restore", NamesBoundsTest::withImages, (x, k) -> x.restore(k), 0, 1, OUTSIDE, k -> 1);
        for (int each = 0; each < 2; each++) {
            int kept = each;
            Supplier<BelowWorth> maker = () -> {
                BelowWorth x = Bench.fleet();
                x.image(kept);
                return x;
            };
            BENCH.bounds("restore, one kept", maker, (x, k) -> x.restore(k), 0, 1, OUTSIDE, k -> k == kept ? 1 : STATE);
            BENCH.refused("restore of the other", maker, x -> x.restore(1 - kept), STATE);
        }
    }

    private static final Bench.Call[] CHANGES = {
        x -> x.ship(0, 1, 2, 3), x -> x.sell(5), x -> x.sell(0), x -> x.insure(1, 0, 99), x -> x.insure(2, 1, 0),
        x -> x.insure(3, 2, 7), x -> x.load(4, 9), x -> x.set(0, 99), x -> x.set(1, 20), x -> x.set(2, 1),
        x -> sailed(x, "."), x -> sailed(x, "Fp"), x -> sailed(x, "Fs"), x -> sailed(x, "Ax"), x -> sailed(x, "FxAxCx.Bs"),
        x -> x.tale(0, 1, true), x -> x.tale(0, 7, true), x -> x.forget(), x -> sold(x)};

    private static int sailed(BelowWorth x, String text) {
        Bench.say(x, text);
        return x.done();
    }

    private static int sold(BelowWorth x) {
        for (int ship = 0; ship < 6; ship++) {
            x.sell(ship);
        }
        return x.told(1);
    }

    private static BelowWorth withTwoTales() {
        BelowWorth x = Bench.fleet();
        x.tale(0, 7, false);
        x.tale(3, 4, true);
        return x;
    }

    private static void imageOfEach() {
        BENCH.sentence("promise 29", "It is as it was when it was kept (each that can change)");
        for (int change = 0; change < CHANGES.length; change++) {
            for (int k = 0; k < 2; k++) {
                BelowWorth x = withTwoTales(), y = withTwoTales();
                String first = now(withTwoTales());
                x.image(k);
                CHANGES[change].on(x);
                CHANGES[change].on(y);
                due("change " + change + " changes something", now(y).equals(first) ? 1 : 0, 0);
                due("change " + change + " as without an IMAGE", now(x).equals(now(y)) ? 1 : 0, 1);
                due("restore(" + k + ")", x.restore(k), 1);
                due("restored of change " + change, now(x).equals(first) ? 1 : 0, 1);
                // An IMAGE is still there, and as it was, when it has been restored.
                CHANGES[change].on(x);
                due("restore(" + k + ") again", x.restore(k), 1);
                due("restored again of change " + change, now(x).equals(first) ? 1 : 0, 1);
            }
        }
    }

    /** All that told() tells, but for the signs, with what the TALES tell; some 60 calls. */
    private static String now(BelowWorth x) {
        StringBuilder told = new StringBuilder();
        int there = x.told(1);
        for (int what = 1; what < 68; what++) {
            boolean asked = what < 9 || what >= 10 && what % 10 < 8 && (there >> (what / 10 - 1) & 1) == 1;
            told.append(' ').append(asked ? x.told(what) : 0);
        }
        return told.append(' ').append(x.broken(0)).append(' ').append(x.broken(1)).append(' ').append(x.ones()).toString();
    }

    private static void imageOfTales() {
        BENCH.sentence("promise 29", "It is as it was when it was kept (of each TALE both NAMES, one or two ships)");
        String[] kept = {"06! 71!", "06= 71=", "06= 71!", "25! 34= 03= 12! 67=", "01! 12! 23! 34! 45! 56! 67! 70="};
        String[] later = {"", "71! 06!", "60= 17!", "01= 12= 23= 34= 45= 56= 67= 70="};
        for (String one : kept) {
            for (String other : later) {
                for (int k = 0; k < 2; k++) {
                    BelowWorth x = withTales(one);
                    x.image(k);
                    x.forget();
                    tellTales(x, other);
                    due("restore(" + k + ")", x.restore(k), 1);
                    due("TALES of " + one + " behind " + other, heard(x).equals(heard(withTales(one))) ? 1 : 0, 1);
                }
            }
        }
    }

    /** For all NAMES: whether a TALE more of one ship, or of two, would be left out; if none more fits, what is. */
    private static String heard(BelowWorth x) {
        StringBuilder told = new StringBuilder();
        told.append(x.told(6)).append(' ').append(x.broken(0)).append(' ').append(x.broken(1)).append(' ').append(x.ones());
        x.image(0);
        for (int pair = 0; pair < 64 && x.told(6) < 8; pair++) {
            if (pair / 8 < pair % 8) {
                x.tale(pair / 8, pair % 8, true);
                told.append(' ').append(x.broken(1));
                x.restore(0);
                x.tale(pair / 8, pair % 8, false);
                told.append(x.broken(1));
                x.restore(0);
            }
        }
        return told.toString();
    }

    private static void imageNotOfPad() {
        BENCH.sentence("promise 28", "All but the PAD is kept");
        for (String kept : new String[] {"", "Ap", "z"}) {
            for (String later : new String[] {"", "Bx.", "FiF", ".".repeat(60)}) {
                BelowWorth x = Bench.fleet();
                Bench.say(x, kept);
                x.image(1);
                due("signs stay when it is kept", x.told(0), kept.length());
                Bench.say(x, later);
                int fault = x.fault();
                due("restore(1)", x.restore(1), 1);
                due("told(0)", x.told(0), later.length());
                due("fault()", x.fault(), fault);
                due("wipe()", x.wipe(), later.length());
            }
        }
        BelowWorth x = Bench.fleet();
        x.image(0);
        Bench.say(x, ".As");
        x.restore(0);
        due("done() of what was said", x.done(), 2);
        due("SEASON", x.told(4), 1);
    }

    private static void imagesApart() {
        BENCH.sentence("promise 29", "as it was when it was kept (the other IMAGE, a later IMAGE)");
        BelowWorth x = withTwoTales();
        String first = now(withTwoTales());
        x.image(0);
        sailed(x, "FxAx.");
        x.forget();
        x.image(1);
        sailed(x, "Bx.");
        x.restore(0);
        due("the IMAGE 0", now(x).equals(first) ? 1 : 0, 1);
        x.restore(1);
        due("SEASON of the IMAGE 1", x.told(4), 1);
        due("DROWNED of the IMAGE 1", x.told(7), 7);
        due("TALES of the IMAGE 1", x.told(6), 0);
        due("AFLOAT of the IMAGE 1", x.told(27), 1);
        x.image(0);
        x.sell(1);
        x.restore(0);
        due("DROWNED of the later IMAGE 0", x.told(7), 7);
        due("SHIPS of the later IMAGE 0", x.told(1), 63);
        x.image(0);
        due("SHIPS of the IMAGE 1", x.restore(1) == 1 ? x.told(1) : 0, 63);
    }

    // ---- promise 30

    private static void toldBounds() {
        BENCH.sentence("promise 30", "0 signs to 8 GAIN and 100000. OUTSIDE");
        int[] firsts = {0, 63, 60, 5, 0, 0, 0, 0, 100000};
        BENCH.bounds("told", Bench::fleet, (x, what) -> x.told(what), 0, 8, OUTSIDE, what -> firsts[what]);
        BelowWorth x = Bench.fleet();
        x.set(0, 98);
        x.set(1, 19);
        sailed(x, "Fx...");
        x.tale(1, 2, true);
        x.tale(1, 3, false);
        x.sell(4);
        Bench.say(x, "AsBsz");
        int[] later = {5, 47, 98, 19, 1, 3, 2, 6, 100000 + 135 - 25};
        for (int what = 0; what < 9; what++) {
            due("told(" + what + ")", x.told(what), later[what]);
        }
    }

    private static void toldOfShips() {
        BENCH.sentence("promise 30", "10 times (1 and a SHIP that there is) and 0 AGE .. 7 AFLOAT (1, 0). OUTSIDE");
        for (int each = 0; each < 6; each++) {
            int ship = each, from = 10 * (1 + ship);
            int[] items = {10 + ship, 20 + ship, 30 + ship, 40 + ship, 50 + ship, 1 + ship, 1 + ship, 1};
            for (int item = 0; item < 10; item++) {
                int what = from + item;
                BENCH.answers("told(" + what + ")", Bench::fleet, x -> x.told(what), item < 8 ? items[item] : OUTSIDE);
                BENCH.refused("told(" + what + "), sold", () -> {
                    BelowWorth x = Bench.fleet();
                    x.sell(ship);
                    return x;
                }, x -> x.told(what), OUTSIDE);
            }
            BENCH.refused("told(" + (from + 8) + ")", Bench::fleet, x -> x.told(from + 8), OUTSIDE);
            BENCH.refused("told(" + (from + 9) + ")", Bench::fleet, x -> x.told(from + 9), OUTSIDE);
            BelowWorth x = Bench.fleet();
            sailed(x, (char) ('A' + ship) + "x");
            due("AFLOAT of what has sunk", x.told(from + 7), 0);
            due("LOAD of what has sunk", x.told(from + 5), 1 + ship);
        }
        for (int what : new int[] {-11, -10, -1, 9, 68, 69, 70, 71, 77, 80, 110, 1000, Bench.LOWEST, Bench.HIGHEST}) {
            BENCH.refused("told(" + what + ")", Bench::fleet, x -> x.told(what), OUTSIDE);
        }
    }
}
