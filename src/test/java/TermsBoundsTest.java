import java.util.function.Supplier;

/** The Terms ahead of the promises: 512 calls, which refusal comes first, what refused calls change, fractions, sets. */
public final class TermsBoundsTest {
    private static final Bench BENCH = new Bench("TermsBoundsTest");
    private static final int UNKNOWN = Bench.UNKNOWN, OUTSIDE = Bench.OUTSIDE, STATE = Bench.STATE, FULL = Bench.FULL,
            NO = Bench.NO;
    private static final long GONE = Bench.GONE;
    /** The ACTS can be; one can not (there is no SHIP B); there is a FAULT; both. */
    private static final String FINE = "Ai1.Ax", CAN_NOT = "ApBp", FAULT = "Ap!", BOTH = "ApBpA";

    public static void main(String[] args) {
        lastCalls();
        questionsAgain();
        unknownFirst();
        outsideFirst();
        noBeforeState();
        fullLast();
        changeNothing();
        fullChangesNothing();
        signsSaid();
        fractions();
        sets();
        BENCH.end();
    }

    // ---- at most 512 calls

    private static final Bench.Call[] EACH = {
        x -> x.ship(1, 1, 1, 1), x -> x.sell(0), x -> x.insure(0, 0, 1), x -> x.load(0, 1), x -> x.set(0, 1),
        x -> x.say('A'), x -> x.wipe(), x -> x.fault(), x -> x.judge(2), x -> x.behind(0, 2), x -> x.total(0),
        x -> x.sunk(1), x -> x.done(), x -> x.mean(0, 9, 0), x -> x.deep(0), x -> x.share(0, 2), x -> x.losses(1, 0),
        x -> x.fleet(123456, 654321, 6, 1), x -> x.holds(532110, 1), x -> x.meant(25, 75, 1, 1, 0),
        x -> x.tale(4, 5, true), x -> x.forget(), x -> x.broken(0), x -> x.ones(), x -> x.berth(13, 4, 1),
        x -> x.year(5, 90, 0), x -> x.image(0), x -> x.restore(1), x -> x.told(8)};

    private static void lastCalls() {
        BENCH.sentence("Terms", "at most 512 calls after it has been made");
        for (int call = 0; call < EACH.length; call++) {
            long want = EACH[call].on(Bench.rich(FINE));
            for (int number = 510; number <= 512; number++) {
                BENCH.due("call " + call + " as number " + number, EACH[call].on(usedFor(number - 1)), want);
            }
            // What the 513th answers is free, but it has to end, and not to throw.
            EACH[call].on(usedFor(512));
        }
    }

    /** rich(), used for so many calls in all. */
    private static BelowWorth usedFor(int calls) {
        BelowWorth x = Bench.rich(FINE);
        for (int call = Bench.CALLS_OF_RICH + FINE.length(); call < calls; call++) {
            x.told(call % 9);
        }
        return x;
    }

    /** Each question, one after the other and then again, is answered as an object made anew answers it. */
    private static void questionsAgain() {
        BENCH.sentence("Terms", "Nothing is promised beyond the answers and state changes: questions change nothing");
        Bench.Call[] questions = {
            x -> x.fault(), x -> x.judge(0), x -> x.judge(1), x -> x.judge(2), x -> x.behind(0, 0), x -> x.behind(0, 1),
            x -> x.behind(0, 2), x -> x.behind(0, 3), x -> x.behind(0, 4), x -> x.total(0), x -> x.total(1),
            x -> x.total(2), x -> x.total(3), x -> x.sunk(0), x -> x.sunk(1), x -> x.sunk(2), x -> x.mean(0, 9, 0),
            x -> x.deep(0), x -> x.share(0, 2), x -> x.losses(2, 0), x -> x.losses(-1, 0),
            x -> x.fleet(123456, 654321, 6, 1), x -> x.holds(532110, 1), x -> x.meant(25, 75, 1, 1, 0), x -> x.broken(0),
            x -> x.broken(1), x -> x.ones(), x -> x.berth(13, 4, 1), x -> x.year(5, 90, 0), x -> x.year(6, 90, 1),
            x -> x.year(7, 90, 2), x -> x.told(0), x -> x.told(8), x -> x.told(10)};
        for (String text : new String[] {FINE, CAN_NOT, FAULT, BOTH, ""}) {
            BelowWorth asked = Bench.rich(text);
            for (int number = 0; number < 3 * questions.length; number++) {
                // 25 steps over 34 questions come by each of them.
                Bench.Call question = questions[25 * number % questions.length];
                BENCH.due("question " + 25 * number % questions.length + " of " + text, question.on(asked),
                        question.on(Bench.rich(text)));
            }
            BENCH.due("as if none had been asked", Bench.all(asked).equals(Bench.all(Bench.rich(text))) ? 1 : 0, 1);
        }
    }

    // ---- the first of these that fits

    private static void refused(String name, Supplier<BelowWorth> maker, Bench.Call call, long want) {
        BENCH.refused(name, maker, call, want);
    }

    private static void unknownFirst() {
        BENCH.sentence("Terms", "the first of these that fits: UNKNOWN");
        for (String text : new String[] {FINE, CAN_NOT, FAULT, BOTH}) {
            Supplier<BelowWorth> maker = () -> Bench.rich(text);
            for (int number : new int[] {-1, 6}) {
                refused("ship, all wrong", maker, x -> x.ship(number, -1, 100, 0), UNKNOWN);
            }
            // SHIP 1 was never there, 3 was sold.
            for (int number : new int[] {-1, 1, 3, 6}) {
                refused("sell", maker, x -> x.sell(number), UNKNOWN);
                refused("insure, all wrong", maker, x -> x.insure(number, 3, 100), UNKNOWN);
                refused("load, all wrong", maker, x -> x.load(number, 10), UNKNOWN);
                refused("behind, all wrong", maker, x -> x.behind(number, 5), UNKNOWN);
                refused("behind, no SHIP", maker, x -> x.behind(number, 0), UNKNOWN);
                refused("mean, all wrong", maker, x -> x.mean(number, 10, 2), GONE + UNKNOWN);
                refused("mean, no SHIP and no part", maker, x -> x.mean(number, 0, 2), GONE + UNKNOWN);
                refused("deep", maker, x -> x.deep(number), UNKNOWN);
                refused("share, all wrong", maker, x -> x.share(number, 10), UNKNOWN);
            }
        }
    }

    private static void outsideFirst() {
        BENCH.sentence("Terms", "the first of these that fits: OUTSIDE");
        for (String text : new String[] {FINE, CAN_NOT, FAULT, BOTH}) {
            Supplier<BelowWorth> maker = () -> Bench.rich(text);
            for (int wrong : new int[] {-1, 9}) {
                refused("judge", maker, x -> x.judge(wrong), OUTSIDE);
                refused("behind", maker, x -> x.behind(0, wrong), OUTSIDE);
                refused("total", maker, x -> x.total(wrong), OUTSIDE);
                refused("sunk", maker, x -> x.sunk(wrong), OUTSIDE);
            }
        }
        for (int wrong : new int[] {-1, 2}) {
            refused("restore, none kept", BelowWorth::new, x -> x.restore(wrong), OUTSIDE);
        }
    }

    private static void noBeforeState() {
        BENCH.sentence("Terms", "NO -5 (as told), STATE -3 (as told)");
        refusedVoyages(FAULT, NO, NO);
        refusedVoyages(BOTH, NO, NO);
        // The FAULT is what stands behind an ACT that can not be.
        refusedVoyages("BpAp?", NO, NO);
        refusedVoyages(CAN_NOT, STATE, 1);
    }

    private static void refusedVoyages(String text, int want, int judged) {
        Supplier<BelowWorth> maker = () -> Bench.rich(text);
        BENCH.answers("judge(0) of " + text, maker, x -> x.judge(0), judged);
        BENCH.answers("judge(1) of " + text, maker, x -> x.judge(1), judged);
        refused("judge(2) of " + text, maker, x -> x.judge(2), want);
        refused("done() of " + text, maker, x -> x.done(), want);
        for (int what = 0; what < 5; what++) {
            int asked = what;
            refused("behind of " + text, maker, x -> x.behind(0, asked), want);
            if (what < 4) {
                refused("total of " + text, maker, x -> x.total(asked), want);
            }
            if (what < 3) {
                refused("sunk of " + text, maker, x -> x.sunk(asked), want);
            }
        }
    }

    /** As rich(), with a PAD of 60 signs and 8 TALES. */
    private static BelowWorth full() {
        BelowWorth x = Bench.rich("Ap".repeat(30));
        for (int more = 0; more < 5; more++) {
            x.tale(6, 7, more % 2 == 0);
        }
        return x;
    }

    private static void fullLast() {
        BENCH.sentence("Terms", "the first of these that fits: FULL");
        for (int sign : new int[] {Bench.LOWEST, 0, 32, 127, Bench.HIGHEST}) {
            refused("say(" + sign + "), full", TermsBoundsTest::full, x -> x.say(sign), OUTSIDE);
        }
        for (int sign : new int[] {33, '.', 'A', 126}) {
            refused("say(" + sign + "), full", TermsBoundsTest::full, x -> x.say(sign), FULL);
        }
        for (int wrong : new int[] {-1, 3, 8}) {
            refused("tale(" + wrong + ", 3), full", TermsBoundsTest::full, x -> x.tale(wrong, 3, false), UNKNOWN);
            refused("tale(3, " + wrong + "), full", TermsBoundsTest::full, x -> x.tale(3, wrong, true), UNKNOWN);
        }
        refused("tale(0, 7), full", TermsBoundsTest::full, x -> x.tale(0, 7, false), FULL);
        refused("tale(5, 4), full", TermsBoundsTest::full, x -> x.tale(5, 4, true), FULL);
    }

    // ---- they change nothing

    private static void changeNothing() {
        BENCH.sentence("Terms", "They change nothing");
        for (String text : new String[] {FINE, CAN_NOT, FAULT, ""}) {
            Supplier<BelowWorth> maker = () -> Bench.rich(text);
            for (int wrong : new int[] {-1, 1000000}) {
                refused("ship, AGE", maker, x -> x.ship(0, wrong, 1, 1), OUTSIDE);
                refused("ship, WORTH", maker, x -> x.ship(0, 1, wrong, 1), OUTSIDE);
                refused("ship, CREW", maker, x -> x.ship(0, 1, 1, wrong), OUTSIDE);
                refused("ship, CREW of a new one", maker, x -> x.ship(1, 1, 1, wrong), OUTSIDE);
                refused("insure, office", maker, x -> x.insure(0, wrong, 1), OUTSIDE);
                refused("insure, v", maker, x -> x.insure(0, 0, wrong), OUTSIDE);
                refused("load, v", maker, x -> x.load(0, wrong), OUTSIDE);
                refused("set, which", maker, x -> x.set(wrong, 1), OUTSIDE);
                refused("say", maker, x -> x.say(wrong), OUTSIDE);
                refused("mean, n", maker, x -> x.mean(0, wrong, 0), GONE + OUTSIDE);
                refused("share, v", maker, x -> x.share(0, wrong), OUTSIDE);
                refused("losses, part", maker, x -> x.losses(0, wrong), GONE + OUTSIDE);
                refused("fleet, v", maker, x -> x.fleet(1, 1, wrong, 0), OUTSIDE);
                refused("holds, weights", maker, x -> x.holds(wrong, 0), OUTSIDE);
                refused("meant, n", maker, x -> x.meant(1, 1, wrong, 0, 0), GONE + OUTSIDE);
                refused("tale", maker, x -> x.tale(0, wrong, true), UNKNOWN);
                refused("broken", maker, x -> x.broken(wrong), OUTSIDE);
                refused("berth, v", maker, x -> x.berth(wrong, 1, 0), OUTSIDE);
                refused("year, m", maker, x -> x.year(0, wrong, 0), OUTSIDE);
                refused("image", maker, x -> x.image(wrong), OUTSIDE);
                refused("restore", maker, x -> x.restore(wrong), OUTSIDE);
                refused("told", maker, x -> x.told(wrong), OUTSIDE);
            }
        }
        refused("restore, none kept", Bench::fleet, x -> x.restore(0), STATE);
        refused("restore, none kept", Bench::fleet, x -> x.restore(1), STATE);
    }

    private static void fullChangesNothing() {
        BENCH.sentence("Terms", "They change nothing (FULL)");
        BelowWorth x = full();
        x.say('.');
        x.tale(0, 1, false);
        BENCH.due("SEASON behind what was said", x.total(2), 1);
        BENCH.due("wipe()", x.wipe(), 60);
        BENCH.due("forget()", x.forget(), 8);
        BENCH.due("ones()", x.ones(), 1);
    }

    private static void signsSaid() {
        BENCH.sentence("Terms", "a sign that is said changes what fault() tells");
        BelowWorth x = new BelowWorth();
        BENCH.due("fault() of nothing", x.fault(), Bench.NONE);
        BENCH.due("say A", x.say('A'), 1);
        BENCH.due("fault() of A", x.fault(), 1);
        BENCH.due("say(32), refused", x.say(32), OUTSIDE);
        BENCH.due("fault() of A", x.fault(), 1);
        BENCH.due("say p", x.say('p'), 2);
        BENCH.due("fault() of Ap", x.fault(), Bench.NONE);
        BENCH.due("say(127), refused", x.say(127), OUTSIDE);
        BENCH.due("fault() of Ap", x.fault(), Bench.NONE);
        BENCH.due("say z", x.say('z'), 3);
        BENCH.due("fault() of Apz", x.fault(), 2);
    }

    // ---- fractions, sets

    private static void fractions() {
        BENCH.sentence("Terms", "Fractions are told in lowest terms by part: 0 the upper, 1 the lower number");
        // RISK n of a hundred of a SHIP that is worth 1 more, or 1 less, than it is insured for.
        for (int age = 0; age <= 40; age++) {
            int years = age;
            BENCH.fraction("mean, RISK " + age, () -> Bench.one(years, 1, 1, 0), (x, part) -> x.mean(0, 0, part), -age, 100);
            BENCH.fraction("losses, RISK " + age, () -> Bench.one(years, 1, 1, 0), (x, part) -> x.losses(1, part), age, 100);
            BENCH.fraction("losses(-1), RISK " + age, () -> insuredForOne(years), (x, part) -> x.losses(-1, part), age, 100);
        }
        BENCH.fraction("meant", BelowWorth::new, (x, part) -> x.meant(50, 50, 6, 3, part), 1, 2);
        BENCH.fraction("meant of nothing", BelowWorth::new, (x, part) -> x.meant(0, 0, 1, 1, part), 0, 1);
        BENCH.sentence("Terms", "refused with GONE and the refusal");
        for (int part : new int[] {Bench.LOWEST, -1, 0, 1, 2, Bench.HIGHEST}) {
            refused("mean, UNKNOWN", Bench::fleet, x -> x.mean(6, 0, part), -1000000000000000001L);
            refused("mean, OUTSIDE", Bench::fleet, x -> x.mean(5, 10, part), -1000000000000000002L);
            refused("losses, OUTSIDE", Bench::fleet, x -> x.losses(7, part), -1000000000000000002L);
            refused("meant, OUTSIDE", Bench::fleet, x -> x.meant(0, 0, 7, 0, part), -1000000000000000002L);
        }
    }

    private static BelowWorth insuredForOne(int age) {
        BelowWorth x = Bench.one(age, 0, 1, 0);
        x.insure(0, 1, 1);
        return x;
    }

    private static void sets() {
        BENCH.sentence("Terms", "Sets are bits");
        for (int bits = 0; bits < 64; bits++) {
            BelowWorth x = new BelowWorth();
            for (int ship = 0; ship < 6; ship++) {
                if ((bits >> ship & 1) == 1) {
                    x.ship(ship, 1, 1, 1);
                }
            }
            BENCH.due("told(1)", x.told(1), bits);
        }
    }
}
