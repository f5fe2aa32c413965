/** For each promise: ordinary inputs, the edges that the document names, and wrong inputs, worked out by hand. */
public final class PromisesTest {
    private static final Check CHECK = new Check("PromisesTest");
    private static final int UNKNOWN = -1, OUTSIDE = -2, STATE = -3, FULL = -4, NO = -5, NONE = -6;
    private static final long GONE = -1000000000000000000L;
    private static final int LOWEST = Integer.MIN_VALUE, HIGHEST = Integer.MAX_VALUE;

    public static void main(String[] args) {
        promise01();
        promise02();
        promise03();
        promise04();
        promise05();
        promise06();
        promise07();
        promise08();
        promise09();
        promise10();
        promise10Reasons();
        promise11();
        promise12();
        promise13();
        promise14();
        promise15();
        promise16();
        promise17();
        promise18();
        promise19();
        promise20();
        promise21();
        promise22();
        promise23();
        promise24();
        promise25();
        promise26();
        promise27();
        promise27Acts();
        promise28And29();
        promise30();
        CHECK.end();
    }

    private static void part(int promise) {
        CHECK.part("promise " + promise);
    }

    private static void due(String call, long got, long want) {
        CHECK.due(call, got, want);
    }

    /** An object with SHIP 0: AGE 10, WORTH 20, CREW 5. */
    private static BelowWorth withShip() {
        BelowWorth x = new BelowWorth();
        due("ship(0, 10, 20, 5)", x.ship(0, 10, 20, 5), 1);
        return x;
    }

    /** The PAD is wiped, and the text is said. */
    private static void say(BelowWorth x, String text) {
        x.wipe();
        for (int i = 0; i < text.length(); i++) {
            due("say " + text.charAt(i) + " of " + text, x.say(text.charAt(i)), i + 1);
        }
    }

    private static void toldOf(BelowWorth x, int ship, int... items) {
        for (int item = 0; item < 8; item++) {
            int what = 10 * (ship + 1) + item;
            due("told(" + what + ")", x.told(what), items[item]);
        }
    }

    private static void promise01() {
        part(1);
        BelowWorth x = new BelowWorth();
        int[] first = {0, 0, 60, 5, 0, 0, 0, 0, 100000};
        for (int what = 0; what < first.length; what++) {
            due("told(" + what + ")", x.told(what), first[what]);
        }
        for (int what = 10; what < 80; what++) {
            due("told(" + what + ")", x.told(what), OUTSIDE);
        }
        due("restore(0)", x.restore(0), STATE);
        due("restore(1)", x.restore(1), STATE);
        due("fault()", x.fault(), NONE);
        due("ones()", x.ones(), 1);
        BelowWorth other = withShip();
        due("told(1) of the one", x.told(1), 0);
        due("told(1) of the other", other.told(1), 1);
    }

    private static void promise02() {
        part(2);
        BelowWorth x = new BelowWorth();
        due("ship(5, 40, 99, 20)", x.ship(5, 40, 99, 20), 1);
        due("ship(0, 0, 0, 1)", x.ship(0, 0, 0, 1), 2);
        due("ship(3, 7, 8, 9)", x.ship(3, 7, 8, 9), 3);
        toldOf(x, 5, 40, 99, 0, 0, 0, 0, 20, 1);
        toldOf(x, 0, 0, 0, 0, 0, 0, 0, 1, 1);
        toldOf(x, 3, 7, 8, 0, 0, 0, 0, 9, 1);
        for (int number : new int[] {-1, 6, 7, LOWEST, HIGHEST}) {
            due("ship(" + number + ", ..)", x.ship(number, 1, 1, 1), UNKNOWN);
            due("ship(" + number + ", -1 ..)", x.ship(number, -1, -1, -1), UNKNOWN);
        }
        int[][] wrong = {{-1, 1, 1}, {41, 1, 1}, {1, -1, 1}, {1, 100, 1}, {1, 1, 0}, {1, 1, 21},
            {LOWEST, 1, 1}, {HIGHEST, 1, 1}, {1, LOWEST, 1}, {1, HIGHEST, 1}, {1, 1, LOWEST}, {1, 1, HIGHEST}};
        for (int[] w : wrong) {
            due("ship(3, wrong)", x.ship(3, w[0], w[1], w[2]), OUTSIDE);
            due("ship(4, wrong)", x.ship(4, w[0], w[1], w[2]), OUTSIDE);
        }
        toldOf(x, 3, 7, 8, 0, 0, 0, 0, 9, 1);
        due("told(1)", x.told(1), 41);
        anewAfterSinking(x);
    }

    private static void anewAfterSinking(BelowWorth x) {
        for (int office = 0; office < 3; office++) {
            x.insure(3, office, 10 + office);
        }
        x.load(3, 4);
        say(x, "Dx");
        due("done()", x.done(), 1);
        toldOf(x, 3, 7, 8, 10, 11, 12, 4, 9, 0);
        due("ship(3) anew", x.ship(3, 1, 2, 3), 3);
        toldOf(x, 3, 1, 2, 0, 0, 0, 0, 3, 1);
        due("GAIN", x.told(8), 100025);
        due("DROWNED", x.told(7), 9);
    }

    private static void promise03() {
        part(3);
        BelowWorth x = withShip();
        x.ship(2, 1, 1, 1);
        x.ship(5, 1, 1, 1);
        due("sell(1)", x.sell(1), UNKNOWN);
        due("sell(-1)", x.sell(-1), UNKNOWN);
        due("sell(6)", x.sell(6), UNKNOWN);
        due("sell(lowest)", x.sell(LOWEST), UNKNOWN);
        due("sell(highest)", x.sell(HIGHEST), UNKNOWN);
        due("told(1)", x.told(1), 37);
        due("sell(2)", x.sell(2), 2);
        due("sell(2) again", x.sell(2), UNKNOWN);
        due("told(1)", x.told(1), 33);
        due("told(30)", x.told(30), OUTSIDE);
        x.load(5, 1);
        say(x, "Fx");
        x.done();
        due("sell(5), sunk", x.sell(5), 1);
        due("sell(0)", x.sell(0), 0);
        due("ship(0) anew", x.ship(0, 3, 4, 5), 1);
        toldOf(x, 0, 3, 4, 0, 0, 0, 0, 5, 1);
    }

    private static void promise04() {
        part(4);
        BelowWorth x = withShip();
        x.ship(1, 0, 0, 1);
        due("insure(0, 0, 99)", x.insure(0, 0, 99), 0);
        due("insure(0, 1, 5)", x.insure(0, 1, 5), 0);
        due("insure(0, 2, 7)", x.insure(0, 2, 7), 0);
        due("insure(0, 0, 0)", x.insure(0, 0, 0), 99);
        due("insure(0, 1, 6)", x.insure(0, 1, 6), 5);
        due("insure(0, 2, 7)", x.insure(0, 2, 7), 7);
        toldOf(x, 0, 10, 20, 0, 6, 7, 0, 5, 1);
        toldOf(x, 1, 0, 0, 0, 0, 0, 0, 1, 1);
        int[] numbers = {2, -1, 6, LOWEST, HIGHEST};
        for (int number : numbers) {
            due("insure(" + number + ", 0, 1)", x.insure(number, 0, 1), UNKNOWN);
            due("insure(" + number + ", 3, 100)", x.insure(number, 3, 100), UNKNOWN);
        }
        int[][] wrong = {{-1, 1}, {3, 1}, {0, -1}, {0, 100}, {LOWEST, 1}, {HIGHEST, 1}, {0, LOWEST}, {0, HIGHEST}};
        for (int[] w : wrong) {
            due("insure(0, " + w[0] + ", " + w[1] + ")", x.insure(0, w[0], w[1]), OUTSIDE);
        }
        toldOf(x, 0, 10, 20, 0, 6, 7, 0, 5, 1);
        x.load(0, 1);
        say(x, "Ax");
        x.done();
        due("insure(0, 1, 8), sunk", x.insure(0, 1, 8), 6);
        due("told(13)", x.told(13), 8);
    }

    private static void promise05() {
        part(5);
        BelowWorth x = withShip();
        x.ship(1, 0, 0, 1);
        due("load(0, 9)", x.load(0, 9), 0);
        due("load(0, 4)", x.load(0, 4), 9);
        due("load(0, 0)", x.load(0, 0), 4);
        due("load(0, 3)", x.load(0, 3), 0);
        due("told(25)", x.told(25), 0);
        for (int v : new int[] {-1, 10, LOWEST, HIGHEST}) {
            due("load(0, " + v + ")", x.load(0, v), OUTSIDE);
            due("load(2, " + v + ")", x.load(2, v), UNKNOWN);
        }
        due("load(-1, 1)", x.load(-1, 1), UNKNOWN);
        due("load(6, 1)", x.load(6, 1), UNKNOWN);
        due("told(15)", x.told(15), 3);
        say(x, "Ax");
        x.done();
        due("load(0, 2), sunk", x.load(0, 2), 3);
    }

    private static void promise06() {
        part(6);
        BelowWorth x = new BelowWorth();
        due("set(0, 99)", x.set(0, 99), 60);
        due("set(0, 0)", x.set(0, 0), 99);
        due("set(0, 33)", x.set(0, 33), 0);
        due("set(1, 20)", x.set(1, 20), 5);
        due("set(1, 0)", x.set(1, 0), 20);
        due("set(1, 7)", x.set(1, 7), 0);
        due("set(2, 1)", x.set(2, 1), 0);
        due("set(2, 0)", x.set(2, 0), 1);
        due("set(2, 1)", x.set(2, 1), 0);
        int[][] wrong = {{-1, 0}, {3, 0}, {0, -1}, {0, 100}, {1, -1}, {1, 21}, {2, -1}, {2, 2},
            {LOWEST, 0}, {HIGHEST, 0}, {0, LOWEST}, {1, HIGHEST}, {2, LOWEST}};
        for (int[] w : wrong) {
            due("set(" + w[0] + ", " + w[1] + ")", x.set(w[0], w[1]), OUTSIDE);
        }
        due("NERVE", x.told(2), 33);
        due("FREIGHT", x.told(3), 7);
        due("SEASON", x.told(4), 1);
        due("seasons", x.told(5), 0);
    }

    private static void promise07() {
        part(7);
        BelowWorth x = new BelowWorth();
        for (int sign : new int[] {32, 127, 0, -1, 10, 200, LOWEST, HIGHEST}) {
            due("say(" + sign + ")", x.say(sign), OUTSIDE);
        }
        due("told(0)", x.told(0), 0);
        due("say(33)", x.say(33), 1);
        due("say(126)", x.say(126), 2);
        for (int count = 3; count <= 60; count++) {
            due("say(46)", x.say(46), count);
        }
        due("say(46), full", x.say(46), FULL);
        due("say(32), full", x.say(32), OUTSIDE);
        due("told(0)", x.told(0), 60);
    }

    private static void promise08() {
        part(8);
        BelowWorth x = new BelowWorth();
        due("wipe()", x.wipe(), 0);
        say(x, "zz");
        due("fault()", x.fault(), 0);
        due("wipe()", x.wipe(), 2);
        due("wipe()", x.wipe(), 0);
        due("fault()", x.fault(), NONE);
        for (int count = 1; count <= 60; count++) {
            x.say('.');
        }
        due("wipe()", x.wipe(), 60);
        due("say(46)", x.say(46), 1);
        due("fault()", x.fault(), NONE);
    }

    private static void fault(BelowWorth x, String text, int want) {
        say(x, text);
        due("fault() of " + text, x.fault(), want);
    }

    private static void promise09() {
        part(9);
        BelowWorth x = new BelowWorth();
        String[] fine = {".", "..", "Ai0", "Bi2", "Cl0", "Dl9", "Ep", "Fs", "Ax", "Ai1.Bl5CpDsEx."};
        for (String text : fine) {
            fault(x, text, NONE);
        }
        String[] open = {"A", "F", ".B", "Ai", "Al", "ApBl"};
        for (String text : open) {
            fault(x, text, text.length());
        }
        String[] wrong = {"G", "@", "a", "0", "!", "~", "s", "i"};
        for (String text : wrong) {
            fault(x, text, 0);
            fault(x, ".Ap" + text, 3);
            fault(x, text + "Ap", 0);
        }
        fault(x, "AA", 1);
        fault(x, "A.", 1);
        fault(x, "AI", 1);
        fault(x, "A0", 1);
        fault(x, "Ai3", 2);
        fault(x, "Ai/", 2);
        fault(x, "Al:", 2);
        fault(x, "Al/", 2);
        fault(x, "AlA", 2);
        fault(x, "Ap0", 2);
        fault(x, "As9", 2);
        fault(x, "Ax.p", 3);
        fault(x, "Ai00", 3);
        fault(x, "Al00", 3);
    }

    private static void judged(BelowWorth x, String text, int act, int why, int sailings) {
        say(x, text);
        due("judge(0) of " + text, x.judge(0), act);
        due("judge(1) of " + text, x.judge(1), why);
        due("judge(2) of " + text, x.judge(2), sailings);
    }

    private static void promise10() {
        part(10);
        BelowWorth x = withShip();
        x.ship(1, 0, 0, 1);
        judged(x, "", NONE, NONE, 0);
        judged(x, ".", NONE, NONE, 0);
        judged(x, "Al1AsAl1AsBl1Bx.", NONE, NONE, 3);
        judged(x, "Al1As.Cp", 3, 1, STATE);
        judged(x, "As", 0, 4, STATE);
        judged(x, "Bl1BxBp.Cp", 2, 2, STATE);
        judged(x, "A", NO, NO, NO);
        judged(x, "Cpz", NO, NO, NO);
        for (int what : new int[] {-1, 3, LOWEST, HIGHEST}) {
            due("judge(" + what + "), a FAULT", x.judge(what), OUTSIDE);
        }
        due("told(0)", x.told(0), 3);
        toldOf(x, 1, 0, 0, 0, 0, 0, 0, 1, 1);
    }

    private static void promise10Reasons() {
        BelowWorth x = withShip();
        x.insure(0, 1, 89);
        x.insure(0, 2, 90);
        judged(x, "Ai1", NONE, NONE, 0);
        judged(x, "Ai1Ai1", 1, 3, STATE);
        judged(x, "Ai2", 0, 3, STATE);
        judged(x, "Al0", 0, 4, STATE);
        judged(x, "Al3Al2Al2", 2, 4, STATE);
        judged(x, "Ax", 0, 4, STATE);
        judged(x, "Bi0", 0, 1, STATE);
        judged(x, "Al1AxAi2", 2, 2, STATE);
        judged(x, "Al1AxAl1", 2, 2, STATE);
        judged(x, "Al1AxAs", 2, 2, STATE);
        judged(x, "Al1AxAx", 2, 2, STATE);
        // RISK is 10 and 3 for each LOAD and 15 in winter.
        x.set(0, 37);
        judged(x, "Al9As", NONE, NONE, 1);
        judged(x, "Al8.As", 2, 5, STATE);
        judged(x, "Al4.As", NONE, NONE, 1);
        judged(x, "Al5.Ax", 2, 5, STATE);
        judged(x, "Al5..Ax", NONE, NONE, 1);
        judged(x, "Al5.ApAx", NONE, NONE, 1);
        x.set(0, 36);
        judged(x, "Al9As", 1, 5, STATE);
        judged(x, "Al9Ax", 1, 5, STATE);
        judged(x, ".As", 1, 4, STATE);
        lastSeason();
    }

    private static void lastSeason() {
        BelowWorth x = withShip();
        String sixty = ".".repeat(60);
        judged(x, sixty, NONE, NONE, 0);
        due("done()", x.done(), 60);
        judged(x, ".".repeat(39), NONE, NONE, 0);
        judged(x, ".".repeat(39) + "Ap.", 40, 6, STATE);
        judged(x, ".".repeat(40), 39, 6, STATE);
        say(x, ".".repeat(39));
        due("done()", x.done(), 39);
        due("seasons", x.told(5), 99);
        judged(x, ".", 0, 6, STATE);
        due("told(4)", x.told(4), 1);
        x.set(2, 0);
        judged(x, "Ap.", 1, 6, STATE);
    }

    private static void behindIs(BelowWorth x, int ship, int... items) {
        for (int what = 0; what < 5; what++) {
            due("behind(" + ship + ", " + what + ")", x.behind(ship, what), items[what]);
        }
    }

    private static void promise11() {
        part(11);
        BelowWorth x = withShip();
        x.ship(3, 40, 99, 20);
        behindIs(x, 0, 10, 0, 0, 10, 1);
        say(x, "Ai0Ai1Ai1Ai2Al7.Ap");
        behindIs(x, 0, 5, 7, 40, 41, 1);
        behindIs(x, 3, 40, 0, 0, 55, 1);
        say(x, "Al3As");
        behindIs(x, 0, 11, 0, 0, 11, 1);
        say(x, "Dl6Ds");
        behindIs(x, 3, 40, 0, 0, 40, 1);
        say(x, "Al2AxApAp");
        behindIs(x, 0, STATE, STATE, STATE, STATE, STATE);
        say(x, "Al2Ax");
        behindIs(x, 0, 10, 2, 0, 16, 0);
        say(x, "ApAp");
        behindIs(x, 0, 2, 0, 0, 2, 1);
        toldOf(x, 0, 10, 20, 0, 0, 0, 0, 5, 1);
        say(x, "ApA");
        behindIs(x, 0, NO, NO, NO, NO, NO);
        behindIs(x, 1, UNKNOWN, UNKNOWN, UNKNOWN, UNKNOWN, UNKNOWN);
        for (int what : new int[] {-1, 5, LOWEST, HIGHEST}) {
            due("behind(0, " + what + ")", x.behind(0, what), OUTSIDE);
            due("behind(1, " + what + ")", x.behind(1, what), UNKNOWN);
            due("behind(" + what + ", 0)", x.behind(what, 0), UNKNOWN);
        }
    }

    private static void totalIs(BelowWorth x, int... items) {
        for (int what = 0; what < 4; what++) {
            due("total(" + what + ")", x.total(what), items[what]);
        }
    }

    private static void promise12() {
        part(12);
        BelowWorth x = withShip();
        x.ship(1, 0, 99, 20);
        x.insure(0, 0, 1);
        x.insure(0, 1, 2);
        x.insure(0, 2, 4);
        totalIs(x, 100000, 0, 0, 0);
        say(x, "Al3As");
        totalIs(x, 100015, 0, 0, 0);
        say(x, "Al3AsAl9As");
        totalIs(x, 100060, 0, 0, 0);
        say(x, "Al3Ax");
        totalIs(x, 100000 + 7 - 20, 5, 0, 0);
        say(x, "Al3Ax.Bl1Bx");
        totalIs(x, 100000 + 7 - 20 - 99, 25, 1, 1);
        say(x, "Ai0Al1Ax...");
        totalIs(x, 100000 + 17 - 20, 5, 1, 3);
        due("done()", x.done(), 6);
        say(x, "Bl2Bs.");
        totalIs(x, 100000 - 3 + 10, 5, 0, 4);
        say(x, "As");
        totalIs(x, STATE, STATE, STATE, STATE);
        say(x, "AsA");
        totalIs(x, NO, NO, NO, NO);
        for (int what : new int[] {-1, 4, LOWEST, HIGHEST}) {
            due("total(" + what + ")", x.total(what), OUTSIDE);
        }
    }

    private static void sunkIs(BelowWorth x, String text, int act, int which, int many) {
        say(x, text);
        due("sunk(0) of " + text, x.sunk(0), act);
        due("sunk(1) of " + text, x.sunk(1), which);
        due("sunk(2) of " + text, x.sunk(2), many);
    }

    private static void promise13() {
        part(13);
        BelowWorth x = withShip();
        x.ship(4, 0, 0, 1);
        x.ship(5, 0, 0, 1);
        sunkIs(x, "", NONE, NONE, 0);
        sunkIs(x, "Al1As.", NONE, NONE, 0);
        sunkIs(x, "Al1AsAl1Ax", 3, 0, 1);
        sunkIs(x, "Al1Fl1.FxAx", 3, 5, 2);
        sunkIs(x, "Fl1Al1El1ExAxFx", 3, 4, 3);
        sunkIs(x, "Al1AxAx", STATE, STATE, STATE);
        sunkIs(x, "Al1AxAx!", NO, NO, NO);
        for (int what : new int[] {-1, 3, LOWEST, HIGHEST}) {
            due("sunk(" + what + ")", x.sunk(what), OUTSIDE);
        }
    }

    private static void promise14() {
        part(14);
        BelowWorth x = withShip();
        due("done() of nothing", x.done(), 0);
        x.insure(0, 1, 30);
        say(x, "Ai1Al4AsAl2.Ap");
        due("done()", x.done(), 6);
        due("told(0)", x.told(0), 0);
        toldOf(x, 0, 5, 20, 0, 40, 0, 2, 5, 1);
        due("GAIN", x.told(8), 100020);
        due("SEASON", x.told(4), 1);
        due("seasons", x.told(5), 1);
        say(x, "Ax");
        due("done()", x.done(), 1);
        toldOf(x, 0, 5, 20, 0, 40, 0, 2, 5, 0);
        due("GAIN", x.told(8), 100040);
        due("DROWNED", x.told(7), 5);
        say(x, ".Ap");
        due("done()", x.done(), STATE);
        due("told(0)", x.told(0), 3);
        due("told(4)", x.told(4), 1);
        due("told(5)", x.told(5), 1);
        say(x, ".A");
        due("done()", x.done(), NO);
        due("told(0)", x.told(0), 2);
        due("told(4)", x.told(4), 1);
    }

    private static void fraction(String call, long upper, long lower, long wantUpper, long wantLower) {
        due(call + ", upper", upper, wantUpper);
        due(call + ", lower", lower, wantLower);
    }

    private static void mean(BelowWorth x, int ship, int n, long upper, long lower) {
        fraction("mean(" + ship + ", " + n + ")", x.mean(ship, n, 0), x.mean(ship, n, 1), upper, lower);
    }

    private static void promise15() {
        part(15);
        BelowWorth x = withShip();
        // n 0: 10 of a hundred, 20 lost; n 9: 37 of a hundred, else 45.
        mean(x, 0, 0, -2, 1);
        mean(x, 0, 9, (37 * -20 + 63 * 45) / 5, 20);
        x.insure(0, 0, 20);
        mean(x, 0, 0, 0, 1);
        x.insure(0, 1, 30);
        x.insure(0, 2, 1);
        mean(x, 0, 1, (13 * 31 + 87 * 5) / 2, 50);
        x.set(2, 1);
        mean(x, 0, 1, (28 * 31 + 72 * 5) / 4, 25);
        x.load(0, 5);
        x.set(0, 0);
        mean(x, 0, 1, (28 * 31 + 72 * 5) / 4, 25);
        x.set(1, 0);
        mean(x, 0, 1, 28 * 31 / 4, 25);
        x.set(1, 5);
        x.set(2, 0);
        x.set(0, 60);
        say(x, "Ax");
        x.done();
        mean(x, 0, 1, (13 * 31 + 87 * 5) / 2, 50);
        for (int v : new int[] {-1, 10, LOWEST, HIGHEST}) {
            due("mean(0, " + v + ", 0)", x.mean(0, v, 0), GONE + OUTSIDE);
            due("mean(1, " + v + ", 0)", x.mean(1, v, 0), GONE + UNKNOWN);
            due("mean(" + v + ", 0, 0)", x.mean(v, 0, 0), GONE + UNKNOWN);
        }
        for (int part : new int[] {-1, 2, LOWEST, HIGHEST}) {
            due("mean(0, 0, " + part + ")", x.mean(0, 0, part), GONE + OUTSIDE);
            due("mean(1, 0, " + part + ")", x.mean(1, 0, part), GONE + UNKNOWN);
        }
    }

    private static void promise16() {
        part(16);
        BelowWorth x = withShip();
        x.set(1, 0);
        due("deep(0): less from 1 on", x.deep(0), 1);
        x.insure(0, 0, 20);
        due("deep(0): all alike", x.deep(0), 1);
        x.insure(0, 0, 21);
        due("deep(0): more up to 9", x.deep(0), 9);
        x.insure(0, 0, 0);
        x.ship(1, 40, 99, 1);
        x.set(1, 20);
        x.set(2, 1);
        // Of n: (55 + 3 n) times -99 and (45 - 3 n) times 20 n: 900 n - 60 n n - 297 n - 5445, most by 5.025.
        due("deep(1)", x.deep(1), 5);
        x.load(1, 9);
        x.set(0, 0);
        due("deep(1) with a LOAD", x.deep(1), 5);
        tiesOfDeep();
        due("deep(2)", x.deep(2), UNKNOWN);
        for (int number : new int[] {-1, 6, LOWEST, HIGHEST}) {
            due("deep(" + number + ")", x.deep(number), UNKNOWN);
        }
        x.set(0, 99);
        say(x, "Bx");
        x.done();
        due("deep(1), sunk", x.deep(1), 5);
    }

    private static void tiesOfDeep() {
        BelowWorth x = new BelowWorth();
        x.ship(0, 40, 10, 1);
        x.set(2, 1);
        x.set(1, 1);
        // Of n with SUMS less WORTH d: 165 times .. 3 d n and (45 - 3 n) n: most at (45 + 3 d) / 6; d = -10: 2.5.
        due("deep(0), 2 and 3 are alike", x.deep(0), 2);
        x.insure(0, 1, 1);
        due("deep(0), 3", x.deep(0), 3);
        x.insure(0, 2, 1);
        due("deep(0), 3 and 4 are alike", x.deep(0), 3);
    }

    private static void promise17() {
        part(17);
        BelowWorth x = new BelowWorth();
        x.ship(0, 40, 10, 1);
        x.set(2, 1);
        x.set(1, 1);
        // DEEP by what is paid P: at (15 + 3 P) / 6, the lower one of two: P 0: 2, 1 and 2: 3, 5 and 6: 5.
        x.insure(0, 0, 4);
        x.insure(0, 2, 3);
        due("deep(0)", x.deep(0), 6);
        due("share(0, 9)", x.share(0, 9), 0);
        due("share(0, 6)", x.share(0, 6), 0);
        due("share(0, 5)", x.share(0, 5), 1);
        due("share(0, 4)", x.share(0, 4), 3);
        due("share(0, 3)", x.share(0, 3), 6);
        due("share(0, 2)", x.share(0, 2), 9);
        due("share(0, 1)", x.share(0, 1), NONE);
        x.load(0, 3);
        due("share(0, 2), a LOAD", x.share(0, 2), 9);
        x.insure(0, 0, 99);
        x.insure(0, 1, 99);
        due("share(0, 2), much", x.share(0, 2), 10);
        for (int v : new int[] {0, 10, -1, LOWEST, HIGHEST}) {
            due("share(0, " + v + ")", x.share(0, v), OUTSIDE);
            due("share(1, " + v + ")", x.share(1, v), UNKNOWN);
        }
        due("share(-1, 1)", x.share(-1, 1), UNKNOWN);
        due("share(6, 1)", x.share(6, 1), UNKNOWN);
        due("share(lowest, 1)", x.share(LOWEST, 1), UNKNOWN);
    }

    private static void losses(BelowWorth x, int k, long upper, long lower) {
        fraction("losses(" + k + ")", x.losses(k, 0), x.losses(k, 1), upper, lower);
    }

    private static void promise18() {
        part(18);
        BelowWorth x = new BelowWorth();
        losses(x, -1, 0, 1);
        losses(x, 0, 1, 1);
        losses(x, 1, 0, 1);
        losses(x, 6, 0, 1);
        x.ship(0, 10, 20, 5);
        losses(x, 1, 1, 10);
        losses(x, 2, 0, 1);
        losses(x, -1, -2, 1);
        x.ship(1, 21, 0, 5);
        x.load(1, 3);
        x.insure(1, 2, 50);
        // 10 and 30 of a hundred.
        losses(x, 0, 1, 1);
        losses(x, 1, 37, 100);
        losses(x, 2, 3, 100);
        losses(x, 3, 0, 1);
        losses(x, -1, (-200 + 30 * 50 + 70 * 15) / 50, 2);
        x.set(2, 1);
        x.set(0, 0);
        losses(x, 2, 9, 80);
        x.set(2, 0);
        x.set(0, 60);
        say(x, "Bx");
        x.done();
        losses(x, 1, 1, 10);
        losses(x, -1, -2, 1);
        sixAreLost();
        for (int k : new int[] {-2, 7, LOWEST, HIGHEST}) {
            due("losses(" + k + ", 0)", x.losses(k, 0), GONE + OUTSIDE);
        }
        for (int part : new int[] {-1, 2, LOWEST, HIGHEST}) {
            due("losses(0, " + part + ")", x.losses(0, part), GONE + OUTSIDE);
            due("losses(-1, " + part + ")", x.losses(-1, part), GONE + OUTSIDE);
        }
    }

    private static void sixAreLost() {
        BelowWorth x = new BelowWorth();
        for (int ship = 0; ship < 6; ship++) {
            x.ship(ship, 20, 1, 1);
        }
        // Each by 1 of 5.
        losses(x, 6, 1, 15625);
        losses(x, 5, (1 + 6 * 4) / 25, 625);
        losses(x, 1, 15625 - 4096, 15625);
        losses(x, -1, -6, 5);
        for (int ship = 0; ship < 6; ship++) {
            x.ship(ship, 1, 99, 1);
        }
        losses(x, 6, 1, 1000000000000L);
        losses(x, 5, 595 / 5, 200000000000L);
    }

    private static void fleet(BelowWorth x, int prices, int brings, int v, int most, int which) {
        String call = "fleet(" + prices + ", " + brings + ", " + v;
        due(call + ", 0)", x.fleet(prices, brings, v, 0), most);
        due(call + ", 1)", x.fleet(prices, brings, v, 1), which);
    }

    private static void fleet(BelowWorth x) {
        fleet(x, 123456, 654321, 6, 15, 7);
        fleet(x, 123456, 654321, 0, 0, 0);
        fleet(x, 123456, 654321, 1, 6, 1);
        fleet(x, 123456, 123456, 6, 6, 7);
        fleet(x, 999999, 999999, 54, 54, 63);
        fleet(x, 999999, 999999, 53, 45, 31);
        fleet(x, 999999, 999999, 8, 0, 0);
        fleet(x, 0, 111111, 0, 6, 63);
        fleet(x, 0, 101, 0, 2, 40);
        fleet(x, 500000, 900000, 4, 0, 0);
        fleet(x, 500000, 900000, 5, 9, 1);
        fleet(x, 5, 9, 5, 9, 32);
        fleet(x, 5, 9, 4, 0, 0);
        fleet(x, 555000, 333333, 5, 12, 57);
        fleet(x, 0, 0, 54, 0, 0);
    }

    private static void promise19() {
        part(19);
        fleet(new BelowWorth());
        BelowWorth x = withShip();
        fleet(x);
        int[][] wrong = {{-1, 0, 0, 0}, {1000000, 0, 0, 0}, {0, -1, 0, 0}, {0, 1000000, 0, 0}, {0, 0, -1, 0},
            {0, 0, 55, 0}, {0, 0, 0, -1}, {0, 0, 0, 2}, {LOWEST, 0, 0, 0}, {0, HIGHEST, 0, 1}, {0, 0, LOWEST, 1},
            {0, 0, 0, HIGHEST}};
        for (int[] w : wrong) {
            due("fleet, wrong", x.fleet(w[0], w[1], w[2], w[3]), OUTSIDE);
        }
    }

    private static void holds(BelowWorth x, int weights, int more, int which) {
        due("holds(" + weights + ", 0)", x.holds(weights, 0), more);
        due("holds(" + weights + ", 1)", x.holds(weights, 1), which);
    }

    private static void promise20() {
        part(20);
        BelowWorth x = new BelowWorth();
        holds(x, 0, 0, 0);
        holds(x, 532110, 0, 26);
        holds(x, 999999, 0, 7);
        holds(x, 99999, 9, 3);
        holds(x, 900000, 9, 0);
        holds(x, 9, 9, 0);
        holds(x, 11, 0, 1);
        holds(x, 110000, 0, 16);
        holds(x, 12, 1, 1);
        holds(x, 21, 1, 1);
        holds(x, 901, 8, 1);
        holds(x, 111111, 0, 7);
        holds(x, 543210, 1, 22);
        int[][] wrong = {{-1, 0}, {1000000, 0}, {0, -1}, {0, 2}, {LOWEST, 0}, {HIGHEST, 1}, {0, LOWEST}, {0, HIGHEST}};
        for (int[] w : wrong) {
            due("holds(" + w[0] + ", " + w[1] + ")", x.holds(w[0], w[1]), OUTSIDE);
        }
    }

    private static void meant(BelowWorth x, int p, int q, int n, int s, long upper, long lower) {
        fraction("meant(" + p + ", " + q + ", " + n + ", " + s + ")", x.meant(p, q, n, s, 0), x.meant(p, q, n, s, 1),
                upper, lower);
    }

    private static void promise21() {
        part(21);
        BelowWorth x = new BelowWorth();
        meant(x, 25, 75, 1, 1, 3, 4);
        meant(x, 25, 75, 1, 0, 1, 4);
        meant(x, 7, 9, 0, 0, 1, 2);
        meant(x, 0, 100, 0, 0, 1, 2);
        meant(x, 100, 0, 3, 2, 0, 1);
        meant(x, 0, 100, 6, 6, 1, 1);
        meant(x, 0, 100, 6, 0, 0, 1);
        meant(x, 50, 100, 6, 6, 64, 65);
        meant(x, 20, 40, 3, 2, 3, 4);
        meant(x, 40, 40, 5, 3, 1, 2);
        meant(x, 10, 90, 6, 5, 6561, 6562);
        meant(x, 1, 99, 6, 6, 941480149401L, 941480149402L);
        int[][] wrong = {{-1, 0, 0, 0, 0}, {101, 0, 0, 0, 0}, {0, -1, 0, 0, 0}, {0, 101, 0, 0, 0}, {0, 0, -1, 0, 0},
            {0, 0, 7, 0, 0}, {0, 0, 3, -1, 0}, {0, 0, 3, 4, 0}, {0, 0, 0, 0, -1}, {0, 0, 0, 0, 2}, {0, 0, -1, -1, 0},
            {LOWEST, 0, 0, 0, 0}, {0, HIGHEST, 0, 0, 0}, {0, 0, HIGHEST, 0, 0}, {0, 0, 1, LOWEST, 0}};
        for (int[] w : wrong) {
            due("meant, wrong", x.meant(w[0], w[1], w[2], w[3], w[4]), GONE + OUTSIDE);
        }
    }

    private static void promise22() {
        part(22);
        BelowWorth x = new BelowWorth();
        int[][] wrong = {{-1, 0}, {8, 0}, {0, -1}, {0, 8}, {0, 0}, {7, 7}, {LOWEST, 1}, {1, HIGHEST}};
        for (int[] w : wrong) {
            due("tale(" + w[0] + ", " + w[1] + ")", x.tale(w[0], w[1], true), UNKNOWN);
        }
        due("told(6)", x.told(6), 0);
        due("tale(0, 7, false)", x.tale(0, 7, false), 1);
        due("tale(0, 7, false)", x.tale(0, 7, false), 2);
        for (int count = 3; count <= 8; count++) {
            due("tale(7, 0, true)", x.tale(7, 0, true), count);
        }
        due("tale(1, 2, true), full", x.tale(1, 2, true), FULL);
        due("tale(1, 1, true), full", x.tale(1, 1, true), UNKNOWN);
        due("tale(8, 1, true), full", x.tale(8, 1, true), UNKNOWN);
        due("told(6)", x.told(6), 8);
        due("ones()", x.ones(), 2);
        due("broken(0)", x.broken(0), 2);
        due("broken(1)", x.broken(1), 6);
    }

    private static void promise23() {
        part(23);
        BelowWorth x = new BelowWorth();
        due("forget()", x.forget(), 0);
        x.tale(0, 1, false);
        x.tale(0, 1, true);
        due("ones()", x.ones(), 2);
        due("broken(0)", x.broken(0), 1);
        due("broken(1)", x.broken(1), 1);
        due("forget()", x.forget(), 2);
        due("forget()", x.forget(), 0);
        due("ones()", x.ones(), 1);
        due("broken(0)", x.broken(0), NONE);
        due("broken(1)", x.broken(1), 0);
        due("tale(0, 1, true)", x.tale(0, 1, true), 1);
        due("broken(0)", x.broken(0), NONE);
    }

    /** TALES as "01=" (one ship) or "01!" (two). */
    private static BelowWorth withTales(String... tales) {
        BelowWorth x = new BelowWorth();
        for (String tale : tales) {
            x.tale(tale.charAt(0) - '0', tale.charAt(1) - '0', tale.charAt(2) == '=');
        }
        return x;
    }

    private static void broken(int first, int many, String... tales) {
        BelowWorth x = withTales(tales);
        String told = String.join(" ", tales);
        due("broken(0) of " + told, x.broken(0), first);
        due("broken(1) of " + told, x.broken(1), many);
    }

    private static void promise24() {
        part(24);
        broken(NONE, 0);
        broken(NONE, 0, "01=", "12=", "02=");
        broken(NONE, 0, "01!", "12!", "02!");
        broken(1, 1, "01=", "01!");
        broken(1, 1, "01!", "10=");
        broken(2, 1, "01=", "12=", "02!");
        broken(2, 1, "01=", "12!", "02=");
        broken(3, 1, "01=", "23=", "12!", "03=");
        broken(3, 1, "01=", "23=", "12=", "03!");
        broken(3, 1, "01!", "23=", "13=", "20=");
        // The second is left out, so that the third is true.
        broken(1, 1, "01=", "10!", "12!", "20!");
        broken(1, 2, "01=", "10!", "12!", "20=");
        broken(1, 4, "67!", "76=", "67=", "67=", "67=", "56=", "75!");
        broken(4, 2, "01=", "12=", "34!", "45!", "02!", "35=", "34=", "05=");
        broken(7, 1, "01=", "12=", "23=", "34=", "45=", "56=", "67=", "07!");
        BelowWorth x = withTales("01=", "01!");
        for (int what : new int[] {-1, 2, LOWEST, HIGHEST}) {
            due("broken(" + what + ")", x.broken(what), OUTSIDE);
        }
        due("told(6)", x.told(6), 2);
    }

    private static void ones(int least, String... tales) {
        due("ones() of " + String.join(" ", tales), withTales(tales).ones(), least);
    }

    private static void promise25() {
        part(25);
        ones(1);
        ones(1, "01=");
        ones(2, "01!");
        ones(2, "67!");
        ones(2, "01!", "23!", "45!", "67!");
        ones(2, "01!", "12!", "23!", "34!", "45!", "56!", "67!", "07!");
        ones(3, "01!", "12!", "23!", "34!", "45!", "56!", "60!");
        ones(3, "01!", "12!", "20!");
        ones(2, "01!", "12!", "20=");
        ones(4, "01!", "02!", "03!", "12!", "13!", "23!");
        ones(4, "76!", "75!", "74!", "65!", "64!", "54!", "01=");
        ones(3, "01!", "02!", "03!", "12!", "13!", "23=", "23!");
        // 0 and 1, 2 and 3, 4 and 5 are three ships, each two of them told by other NAMES.
        ones(3, "01=", "23=", "45=", "12!", "34!", "50!");
        ones(2, "01=", "01!", "12!", "20!");
        ones(1, "01=", "12=", "02!");
        // 2 is the later one's and the earlier one's: what was told of it ahead stands.
        ones(3, "21!", "10!", "23=", "30!");
        ones(2, "34!", "03=", "41=", "12=");
    }

    private static void promise26() {
        part(26);
        BelowWorth x = new BelowWorth();
        for (int v = 1; v <= 99; v++) {
            x = new BelowWorth();
            for (int k = 1; k <= 9; k++) {
                int bid = firstBid(v, k);
                due("berth(" + v + ", " + k + ", 0)", x.berth(v, k, 0), bid > 0 ? 1 : 0);
                due("berth(" + v + ", " + k + ", 1)", x.berth(v, k, 1), bid > 0 ? bid : NONE);
            }
        }
        due("berth(1, 9, 1)", x.berth(1, 9, 1), NONE);
        due("berth(2, 1, 1)", x.berth(2, 1, 1), 1);
        due("berth(3, 1, 0)", x.berth(3, 1, 0), 0);
        due("berth(13, 4, 1)", x.berth(13, 4, 1), 2);
        int[][] wrong = {{0, 1, 0}, {100, 1, 0}, {1, 0, 0}, {1, 10, 0}, {1, 1, -1}, {1, 1, 2}, {LOWEST, 1, 0},
            {HIGHEST, 1, 0}, {1, -1, 0}, {1, LOWEST, 1}, {1, HIGHEST, 1}, {1, 1, LOWEST}, {1, 1, HIGHEST}};
        for (int[] w : wrong) {
            due("berth, wrong", x.berth(w[0], w[1], w[2]), OUTSIDE);
        }
    }

    /** Plays the quarrel out: the least first bid that wins, 0 if there is none. */
    private static int firstBid(int v, int k) {
        boolean[] wins = new boolean[v];
        int bid = 0;
        for (int now = v - 1; now >= 0; now--) {
            bid = 0;
            for (int more = k; more >= 1; more--) {
                if (now + more < v && !wins[now + more]) {
                    bid = more;
                }
            }
            wins[now] = bid > 0;
        }
        return bid;
    }

    private static void yearIs(BelowWorth x, int seed, int m, int gain, int drowned, int afloat) {
        String call = "year(" + seed + ", " + m;
        due(call + ", 0)", x.year(seed, m, 0), gain);
        due(call + ", 1)", x.year(seed, m, 1), drowned);
        due(call + ", 2)", x.year(seed, m, 2), afloat);
    }

    private static void promise27() {
        part(27);
        BelowWorth x = new BelowWorth();
        yearIs(x, 0, 99, 100000, 0, 0);
        yearIs(x, 9999, 1, 100000, 0, 0);
        int[][] wrong = {{-1, 1, 0}, {10000, 1, 0}, {0, 0, 0}, {0, 100, 0}, {0, 1, -1}, {0, 1, 3}, {LOWEST, 1, 0},
            {HIGHEST, 1, 0}, {0, LOWEST, 0}, {0, HIGHEST, 0}, {0, 1, LOWEST}, {0, 1, HIGHEST}};
        for (int[] w : wrong) {
            due("year, wrong", x.year(w[0], w[1], w[2]), OUTSIDE);
        }
        x.ship(5, 40, 99, 20);
        x.ship(4, 40, 0, 1);
        x.ship(2, 7, 20, 9);
        for (int office = 0; office < 3; office++) {
            x.insure(4, office, 99);
        }
        x.set(0, 25);
        x.set(1, 20);
        x.set(2, 1);
        x.load(5, 9);
        say(x, "Cl1");
        int before = x.told(4);
        x.year(9999, 99, 0);
        due("SEASON", x.told(4), before);
        due("seasons", x.told(5), 0);
        due("signs", x.told(0), 3);
        toldOf(x, 5, 40, 99, 0, 0, 0, 9, 20, 1);
        toldOf(x, 4, 40, 0, 99, 99, 99, 0, 1, 1);
        due("GAIN", x.told(8), 100000);
    }

    /** The x that a seed draws first. */
    private static int firstDrawn(int seed) {
        return (75 * seed + 74) % 65537;
    }

    /** The least seed of that draw by which what is left over by 100 (of x by 48) is from least to most. */
    private static int seedOf(int draw, int least, int most) {
        for (int seed = 0; seed <= 9999; seed++) {
            int x = firstDrawn(seed), rest = x / 48 % 100;
            if (x / 6 % 8 == draw && rest >= least && rest <= most) {
                return seed;
            }
        }
        throw new IllegalStateException("no seed");
    }

    /** All six SHIPS alike: WORTH 20, CREW 5, 70 insured, RISK 25 of LOAD 5. */
    private static BelowWorth withFleet() {
        BelowWorth x = new BelowWorth();
        for (int ship = 0; ship < 6; ship++) {
            x.ship(ship, 10, 20, 5);
            x.load(ship, 5);
            x.insure(ship, 1, 70);
        }
        return x;
    }

    private static void promise27Acts() {
        BelowWorth x = withFleet();
        for (int draw = 5; draw <= 7; draw++) {
            yearIs(x, seedOf(draw, 0, 24), 1, 100050, 5, 5);
            yearIs(x, seedOf(draw, 25, 99), 1, 100025, 0, 6);
            justBelowRisk(seedOf(draw, 20, 50));
        }
        for (int draw = 0; draw <= 4; draw++) {
            yearIs(x, seedOf(draw, 0, 24), 1, 100000, 0, 6);
            yearIs(x, seedOf(draw, 25, 99), 1, 100000, 0, 6);
        }
        // In winter RISK is 40.
        x.set(2, 1);
        yearIs(x, seedOf(5, 25, 39), 1, 100050, 5, 5);
        yearIs(x, seedOf(5, 40, 99), 1, 100025, 0, 6);
        x.set(2, 0);
        x.set(0, 24);
        yearIs(x, seedOf(5, 0, 24), 1, 100000, 0, 6);
        yearIs(x, seedOf(5, 25, 99), 1, 100000, 0, 6);
        x.set(0, 25);
        yearIs(x, seedOf(5, 0, 24), 1, 100050, 5, 5);
        noYearFor();
        yearBehind();
        yearOfLastSeason();
    }

    /** In the year the SEASON turns, then a SHIP sails that sinks in winter only; at season 99 it does not turn. */
    private static void yearOfLastSeason() {
        int seed = 0;
        while (seed <= 9999 && !turnsThenSinksInWinter(firstDrawn(seed))) {
            seed++;
        }
        BelowWorth x = withFleet();
        yearIs(x, seed, 2, 100050, 5, 5);
        seasons(x, 49);
        x.set(2, 0);
        yearIs(x, seed, 2, 100050, 5, 5);
        seasons(x, 49);
        x.set(2, 0);
        yearIs(x, seed, 2, 100050, 5, 5);
        seasons(x, 1);
        due("seasons", x.told(5), 99);
        x.set(2, 0);
        yearIs(x, seed, 2, 100025, 0, 6);
        x.set(2, 1);
        yearIs(x, seed, 2, 100050, 5, 5);
    }

    private static boolean turnsThenSinksInWinter(int x) {
        int y = (75 * x + 74) % 65537, later = y / 48 % 100;
        return x / 6 % 8 == 4 && y / 6 % 8 >= 5 && later >= 25 && later < 40;
    }

    private static void seasons(BelowWorth x, int many) {
        say(x, ".".repeat(many));
        due("done()", x.done(), many);
    }

    /** A SHIP sails in that year: it sinks if what is drawn is just below its RISK, it comes home if it is the RISK. */
    private static void justBelowRisk(int seed) {
        int drawn = firstDrawn(seed) / 48 % 100, ship = firstDrawn(seed) % 6;
        BelowWorth x = new BelowWorth();
        x.ship(ship, drawn - 15, 20, 5);
        x.load(ship, 5);
        yearIs(x, seed, 1, 100025, 0, 1);
        x.ship(ship, drawn - 14, 20, 5);
        x.load(ship, 5);
        yearIs(x, seed, 1, 99980, 5, 0);
    }

    /** SHIPS that can not sail: without a LOAD, sunk, sold. */
    private static void noYearFor() {
        int sinking = seedOf(6, 0, 24), homely = seedOf(6, 25, 99);
        int[] ships = {firstDrawn(sinking) % 6, firstDrawn(homely) % 6};
        BelowWorth x = withFleet();
        x.load(ships[0], 0);
        x.load(ships[1], 0);
        yearIs(x, sinking, 1, 100000, 0, 6);
        yearIs(x, homely, 1, 100000, 0, 6);
        x.load(ships[0], 5);
        say(x, (char) ('A' + ships[0]) + "x");
        x.done();
        yearIs(x, sinking, 1, 100050, 5, 5);
        x = withFleet();
        x.sell(ships[0]);
        yearIs(x, sinking, 1, 100000, 0, 5);
        // What is behind is counted from what was ahead.
        x = withFleet();
        int other = (ships[0] + 1) % 6;
        say(x, (char) ('A' + other) + "x");
        x.done();
        yearIs(x, sinking, 1, 100100, 10, 4);
    }

    /** Two ACTS: what the first one does is seen by what the second one brings. */
    private static void yearBehind() {
        int[] seen = new int[8];
        for (int seed = 0; seed <= 9999; seed++) {
            int x = firstDrawn(seed), y = (75 * x + 74) % 65537;
            int draw = x / 6 % 8, rest = x / 48, ship = x % 6, later = y / 48 % 100;
            if (y % 6 != ship || y / 6 % 8 < 5 || seen[draw] >= 20) {
                continue;
            }
            seen[draw]++;
            int load = draw == 1 || draw == 2 ? rest % 10 : 5, age = draw == 3 ? 5 : 10, more = draw == 0 ? 10 : 0;
            int risk = age + 3 * load + (draw == 4 ? 15 : 0);
            if (draw < 5 && load == 0) {
                yearIs(withFleet(), seed, 2, 100000, 0, 6);
            } else if (draw < 5 && later < risk) {
                yearIs(withFleet(), seed, 2, 100050 + more, 5, 5);
            } else if (draw < 5) {
                yearIs(withFleet(), seed, 2, 100000 + 5 * load, 0, 6);
            } else if (rest % 100 < 25) {
                yearIs(withFleet(), seed, 2, 100050, 5, 5);
            } else {
                yearIs(withFleet(), seed, 2, 100025, 0, 6);
            }
        }
        for (int draw = 0; draw < 8; draw++) {
            CHECK.holds("seen twenty times: " + draw, seen[draw] == 20);
        }
    }

    private static void promise28And29() {
        part(28);
        BelowWorth x = withShip();
        for (int k : new int[] {-1, 2, LOWEST, HIGHEST}) {
            due("image(" + k + ")", x.image(k), OUTSIDE);
            due("restore(" + k + ")", x.restore(k), OUTSIDE);
        }
        x.insure(0, 0, 1);
        x.insure(0, 1, 2);
        x.insure(0, 2, 3);
        x.load(0, 4);
        x.set(0, 61);
        x.set(1, 6);
        x.tale(0, 1, true);
        x.tale(0, 1, false);
        say(x, "Ai0.Ax");
        x.done();
        x.ship(3, 30, 31, 12);
        x.load(3, 7);
        x.tale(2, 5, false);
        say(x, "zz");
        due("image(1)", x.image(1), 1);
        due("restore(0)", x.restore(0), STATE);
        changeAll(x);
        due("image(0)", x.image(0), 1);
        part(29);
        due("restore(1)", x.restore(1), 1);
        int[] as = {4, 9, 61, 6, 1, 1, 3, 5, 100000 + 16 - 20};
        for (int what = 0; what < as.length; what++) {
            due("told(" + what + ")", x.told(what), as[what]);
        }
        toldOf(x, 0, 10, 20, 11, 2, 3, 4, 5, 0);
        toldOf(x, 3, 30, 31, 0, 0, 0, 7, 12, 1);
        due("told(20)", x.told(20), OUTSIDE);
        due("broken(0)", x.broken(0), 1);
        due("ones()", x.ones(), 2);
        due("restore(0)", x.restore(0), 1);
        due("told(1)", x.told(1), 2);
        due("told(6)", x.told(6), 1);
        due("ones()", x.ones(), 2);
        due("broken(0)", x.broken(0), NONE);
        due("told(8)", x.told(8), 100000 + 16 - 20 + 6);
        due("restore(1) again", x.restore(1), 1);
        due("told(1)", x.told(1), 9);
        x.image(1);
        x.sell(3);
        due("restore(1) of the later image", x.restore(1), 1);
        due("told(1)", x.told(1), 9);
    }

    private static void changeAll(BelowWorth x) {
        x.sell(0);
        x.sell(3);
        x.ship(1, 0, 9, 8);
        x.set(0, 99);
        x.forget();
        x.tale(6, 7, false);
        say(x, "Bl1Bs.");
        x.done();
        x.set(1, 9);
        say(x, "Bl1.");
    }

    private static void promise30() {
        part(30);
        BelowWorth x = new BelowWorth();
        for (int ship = 0; ship < 6; ship++) {
            x.ship(ship, 10 + ship, 20 + ship, 1 + ship);
            x.insure(ship, 0, 30 + ship);
            x.insure(ship, 1, 40 + ship);
            x.insure(ship, 2, 50 + ship);
            x.load(ship, 1 + ship);
        }
        for (int ship = 0; ship < 6; ship++) {
            toldOf(x, ship, 10 + ship, 20 + ship, 30 + ship, 40 + ship, 50 + ship, 1 + ship, 1 + ship, 1);
            due("item 8", x.told(10 * (ship + 1) + 8), OUTSIDE);
            due("item 9", x.told(10 * (ship + 1) + 9), OUTSIDE);
        }
        due("told(1)", x.told(1), 63);
        for (int what : new int[] {-1, 9, 70, 71, 77, 80, 100, -10, LOWEST, HIGHEST}) {
            due("told(" + what + ")", x.told(what), OUTSIDE);
        }
        x.sell(2);
        for (int what = 30; what < 40; what++) {
            due("told(" + what + ")", x.told(what), OUTSIDE);
        }
        due("told(1)", x.told(1), 59);
        say(x, "Bx.F");
        due("told(0)", x.told(0), 4);
        say(x, "Bx.");
        x.done();
        int[] as = {0, 59, 60, 5, 1, 1, 0, 2, 100000 + 31 + 41 + 51 - 21};
        for (int what = 0; what < as.length; what++) {
            due("told(" + what + ")", x.told(what), as[what]);
        }
        toldOf(x, 1, 11, 21, 31, 41, 51, 2, 2, 0);
    }
}
