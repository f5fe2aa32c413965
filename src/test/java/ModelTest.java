/** Long runs of calls, and whole tables, answered alike by the class and the Model. */
public final class ModelTest {
    private static final Check CHECK = new Check("ModelTest");
    private static final int RUNS = 1500, CALLS = 512;
    private static final String[] ACTS = {".", "As", "Bs", "Cs", "Ax", "Dx", "Ex", "Fx", "Ap", "Bp", "Cp", "Dp",
        "Al1", "Al9", "Bl2", "Cl7", "Dl3", "El5", "Fl4", "Ai0", "Ai1", "Bi2", "Di2", "Ei1", "Fi0"};

    private final BelowWorth real = new BelowWorth();
    private final Model model = new Model();
    private final Draws draws;
    private String text = "";

    private ModelTest(int seed) {
        draws = new Draws(seed);
    }

    public static void main(String[] args) {
        for (int seed = 1; seed <= RUNS && !CHECK.anyFailed(); seed++) {
            CHECK.part("run " + seed);
            new ModelTest(seed).run();
        }
        CHECK.part("tables");
        tables();
        CHECK.end();
    }

    private void run() {
        for (int call = 0; call < CALLS && !CHECK.anyFailed(); call++) {
            if (call < 12) {
                owner(0);
            } else {
                any(draws.below(100));
            }
        }
    }

    private void any(int draw) {
        if (draw < 22) {
            owner(draws.below(10));
        } else if (draw < 56) {
            pad(draws.below(24));
        } else if (draw < 72) {
            told(draws.below(5));
        } else if (draw < 86) {
            names(draws.below(10));
        } else {
            others(draws.below(10));
        }
    }

    private static void due(String call, long got, long want) {
        CHECK.due(call, got, want);
    }

    private void owner(int draw) {
        int ship = draws.about(0, 5);
        if (draw < 3) {
            int age = draws.about(0, 40), worth = draws.about(0, 99), crew = draws.about(1, 20);
            due("ship", real.ship(ship, age, worth, crew), model.ship(ship, age, worth, crew));
        } else if (draw < 5) {
            int office = draws.about(0, 2), v = draws.about(0, 99);
            due("insure", real.insure(ship, office, v), model.insure(ship, office, v));
        } else if (draw < 7) {
            int v = draws.about(0, 9);
            due("load", real.load(ship, v), model.load(ship, v));
        } else if (draw < 9) {
            int which = draws.about(0, 2), v = draws.about(0, new int[] {99, 20, 1}[Math.floorMod(which, 3)]);
            due("set", real.set(which, v), model.set(which, v));
        } else if (draws.oneOf(3)) {
            due("sell", real.sell(ship), model.sell(ship));
        }
    }

    private void pad(int draw) {
        if (text.isEmpty()) {
            text = ACTS[draws.below(ACTS.length)];
        }
        int what = draws.about(0, 4);
        switch (draw) {
            case 0: due("wipe", real.wipe(), model.wipe()); text = ""; break;
            case 1: due("fault", real.fault(), model.fault()); break;
            case 2: due("judge", real.judge(what), model.judge(what)); break;
            case 3: due("total", real.total(what), model.total(what)); break;
            case 4: due("sunk", real.sunk(what), model.sunk(what)); break;
            case 5: due("done", real.done(), model.done()); break;
            case 6:
            case 7: int ship = draws.about(0, 5);
                due("behind", real.behind(ship, what), model.behind(ship, what)); break;
            default: int sign = draws.oneOf(120) ? draws.about(33, 126) : text.charAt(0);
                text = text.substring(1);
                due("say", real.say(sign), model.say(sign));
        }
    }

    private void told(int draw) {
        if (draw == 0) {
            int what = draws.about(0, 70);
            due("told(" + what + ")", real.told(what), model.told(what));
            return;
        }
        int what = draws.oneOf(3) ? draws.below(9) : 10 * (1 + draws.below(6)) + draws.below(8);
        due("told(" + what + ")", real.told(what), model.told(what));
    }

    private void names(int draw) {
        if (draw < 5) {
            int one = draws.about(0, 7), two = draws.about(0, 7);
            boolean same = draws.oneOf(3);
            due("tale", real.tale(one, two, same), model.tale(one, two, same));
        } else if (draw < 7) {
            int what = draws.about(0, 1);
            due("broken", real.broken(what), model.broken(what));
        } else if (draw < 9) {
            due("ones", real.ones(), model.ones());
        } else if (draws.oneOf(3)) {
            due("forget", real.forget(), model.forget());
        }
    }

    private void others(int draw) {
        int ship = draws.about(0, 5), part = draws.about(0, 1);
        switch (draw) {
            case 0: int n = draws.about(0, 9);
                due("mean", real.mean(ship, n, part), model.mean(ship, n, part)); break;
            case 1: due("deep", real.deep(ship), model.deep(ship)); break;
            case 2: int v = draws.about(1, 9);
                due("share", real.share(ship, v), model.share(ship, v)); break;
            case 3: int k = draws.about(-1, 6);
                due("losses", real.losses(k, part), model.losses(k, part)); break;
            case 4: int prices = draws.about(0, 999999), brings = draws.about(0, 999999), purse = draws.about(0, 54);
                due("fleet", real.fleet(prices, brings, purse, part), model.fleet(prices, brings, purse, part)); break;
            case 5: int weights = draws.about(0, 999999);
                due("holds", real.holds(weights, part), model.holds(weights, part)); break;
            case 6:
            case 7: int seed = draws.about(0, 9999), m = draws.about(1, 99), what = draws.about(0, 2);
                due("year", real.year(seed, m, what), model.year(seed, m, what)); break;
            case 8: due("image", real.image(part), model.image(part)); break;
            default: due("restore", real.restore(part), model.restore(part));
        }
    }

    /** An object answers a row of a table at most: it is for 512 calls. */
    private static void tables() {
        Model model = new Model();
        for (int what = 0; what < 2; what++) {
            for (int v = 1; v <= 99; v++) {
                BelowWorth real = new BelowWorth();
                for (int k = 1; k <= 9; k++) {
                    due("berth " + v + " " + k, real.berth(v, k, what), model.berth(v, k, what));
                }
            }
            for (int weights = 0; weights <= 999999; weights += weights < 1000 ? 1 : 137) {
                due("holds " + weights, new BelowWorth().holds(weights, what), model.holds(weights, what));
            }
            for (int p = 0; p <= 100; p += p == 3 ? 7 : p == 90 ? 8 : p > 3 && p < 90 ? 10 : 1) {
                for (int q = 0; q <= 100; q++) {
                    meantTable(model, p, q, what);
                }
            }
        }
        shares();
    }

    private static void meantTable(Model model, int p, int q, int part) {
        BelowWorth real = new BelowWorth();
        for (int n = 0; n <= 6; n++) {
            for (int s = 0; s <= n; s++) {
                due("meant " + p + " " + q + " " + n + " " + s, real.meant(p, q, n, s, part), model.meant(p, q, n, s, part));
            }
        }
    }

    private static void shares() {
        Draws draws = new Draws(7);
        for (int time = 0; time < 1000; time++) {
            BelowWorth real = new BelowWorth();
            Model model = new Model();
            int age = draws.below(41), worth = draws.below(100), sum = draws.below(100), freight = draws.below(21);
            due("ship", real.ship(1, age, worth, 1), model.ship(1, age, worth, 1));
            due("insure", real.insure(1, 2, sum), model.insure(1, 2, sum));
            due("set", real.set(1, freight), model.set(1, freight));
            due("set", real.set(2, age % 2), model.set(2, age % 2));
            due("deep", real.deep(1), model.deep(1));
            for (int v = 0; v <= 10; v++) {
                due("share", real.share(1, v), model.share(1, v));
                due("mean", real.mean(1, v, 0), model.mean(1, v, 0));
                due("mean", real.mean(1, v, 1), model.mean(1, v, 1));
            }
        }
    }
}
