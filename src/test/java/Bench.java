import java.math.BigInteger;
import java.util.function.IntToLongFunction;
import java.util.function.Supplier;

/** What the tests of bounds share. A question is put to an object made anew: none is used for more than 512 calls. */
final class Bench {
    static final int UNKNOWN = -1, OUTSIDE = -2, STATE = -3, FULL = -4, NO = -5, NONE = -6;
    static final long GONE = -1000000000000000000L;
    static final int LOWEST = Integer.MIN_VALUE, HIGHEST = Integer.MAX_VALUE;
    /** So many calls rich() needs, beside one for each sign of its text. */
    static final int CALLS_OF_RICH = 25;

    interface Call {
        long on(BelowWorth x);
    }

    interface CallWith {
        long on(BelowWorth x, int v);
    }

    private final Check check;

    Bench(String program) {
        check = new Check(program);
    }

    /** What is tested from here on: a promise, and the words of the document. */
    void sentence(String promise, String words) {
        check.part(promise + ", \"" + words + "\"");
    }

    void due(String call, long got, long want) {
        check.due(call, got, want);
    }

    void end() {
        check.end();
    }

    // ---- objects

    /** SHIPS 0 to 5, number s: AGE 10 + s, WORTH 20 + s, CREW 1 + s, SUMS 30, 40 and 50 + s, LOAD 1 + s. */
    static BelowWorth fleet() {
        BelowWorth x = new BelowWorth();
        for (int s = 0; s < 6; s++) {
            x.ship(s, 10 + s, 20 + s, 1 + s);
            x.insure(s, 0, 30 + s);
            x.insure(s, 1, 40 + s);
            x.insure(s, 2, 50 + s);
            x.load(s, 1 + s);
        }
        return x;
    }

    /** SHIP 0 alone. */
    static BelowWorth one(int age, int worth, int crew, int load) {
        BelowWorth x = new BelowWorth();
        x.ship(0, age, worth, crew);
        x.load(0, load);
        return x;
    }

    /**
     * All is other than at first, and each IMAGE is of another time: SHIP 0 is there, 1 is not, 2 has sunk, 3 was
     * sold, 4 and 5 are there; one TALE is left out; that text is said.
     */
    static BelowWorth rich(String text) {
        BelowWorth x = new BelowWorth();
        x.ship(0, 30, 11, 7);
        x.tale(0, 1, true);
        x.image(0);
        x.ship(2, 5, 12, 8);
        x.ship(3, 6, 13, 9);
        x.load(2, 1);
        x.tale(1, 2, false);
        say(x, ".Cx");
        x.done();
        x.image(1);
        x.sell(3);
        x.ship(4, 7, 14, 10);
        x.ship(5, 40, 99, 20);
        x.insure(0, 0, 21);
        x.insure(0, 2, 23);
        x.insure(4, 1, 99);
        x.load(0, 4);
        x.load(4, 9);
        x.set(0, 70);
        x.set(1, 6);
        x.tale(0, 2, true);
        say(x, text);
        return x;
    }

    /** The PAD is wiped, and the text is said. */
    static void say(BelowWorth x, String text) {
        x.wipe();
        for (int i = 0; i < text.length(); i++) {
            x.say(text.charAt(i));
        }
    }

    /** So many seasons go by; the SEASON is set afterwards. */
    static void seasons(BelowWorth x, int many, int season) {
        for (int gone = 0; gone < many; gone += 60) {
            say(x, ".".repeat(Math.min(60, many - gone)));
            x.done();
        }
        x.set(2, season);
    }

    // ---- what is compared

    /** All that an object tells, with what its IMAGES tell behind it; some 250 calls. */
    static String all(BelowWorth x) {
        StringBuilder told = new StringBuilder();
        tellNow(x, told);
        for (int k = 0; k < 2; k++) {
            told.append(" image ").append(k).append(": ").append(x.restore(k));
            tellNow(x, told);
        }
        return told.toString();
    }

    private static void tellNow(BelowWorth x, StringBuilder told) {
        for (int what = 0; what < 9; what++) {
            told.append(' ').append(x.told(what));
        }
        int there = x.told(1);
        for (int ship = 0; ship < 6; ship++) {
            for (int item = 0; (there >> ship & 1) == 1 && item < 8; item++) {
                told.append(' ').append(x.told(10 * (1 + ship) + item));
            }
        }
        told.append(" pad ").append(x.fault());
        for (int what = 0; what < 3; what++) {
            told.append(' ').append(x.judge(what)).append(' ').append(x.total(what)).append(' ').append(x.sunk(what));
        }
        told.append(" tales ").append(x.broken(0)).append(' ').append(x.broken(1)).append(' ').append(x.ones());
    }

    /** The call is refused so, and changes nothing. */
    void refused(String name, Supplier<BelowWorth> maker, Call call, long want) {
        BelowWorth x = maker.get();
        due(name, call.on(x), want);
        String behind = all(x), ahead = all(maker.get());
        if (!behind.equals(ahead)) {
            System.out.println("ahead " + ahead + "\nbehind " + behind);
        }
        due(name + " changes nothing", behind.equals(ahead) ? 1 : 0, 1);
    }

    void answers(String name, Supplier<BelowWorth> maker, Call call, long want) {
        due(name, call.on(maker.get()), want);
    }

    /** A number's bounds: one below, at and one above each, and the farthest numbers of all. */
    void bounds(String name, Supplier<BelowWorth> maker, CallWith call, int least, int most, long refusal,
            IntToLongFunction want) {
        for (int v : new int[] {LOWEST, least - 1, most + 1, HIGHEST}) {
            refused(name + " of " + v, maker, x -> call.on(x, v), refusal);
        }
        for (int v : new int[] {least, least + 1, most - 1, most}) {
            if (v >= least && v <= most) {
                answers(name + " of " + v, maker, x -> call.on(x, v), want.applyAsLong(v));
            }
        }
    }

    /** A part of a fraction in lowest terms. */
    static long part(long upper, long lower, int part) {
        long common = BigInteger.valueOf(upper).gcd(BigInteger.valueOf(lower)).longValueExact();
        return (part == 0 ? upper : lower) / common;
    }

    /** Both parts of a fraction are due in lowest terms; parts -1 and 2 are refused. */
    void fraction(String name, Supplier<BelowWorth> maker, CallWith ofPart, long upper, long lower) {
        bounds(name + ", part", maker, ofPart, 0, 1, GONE + OUTSIDE, part -> part(upper, lower, part));
    }

    /** What told() says of a SHIP: AGE, WORTH, SUMS, LOAD, CREW, AFLOAT. */
    void shipIs(String name, BelowWorth x, int ship, int... items) {
        for (int item = 0; item < 8; item++) {
            due(name + ", item " + item + " of SHIP " + ship, x.told(10 * (1 + ship) + item), items[item]);
        }
    }
}
