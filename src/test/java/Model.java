import java.math.BigInteger;
import java.util.ArrayList;
import java.util.HashMap;
import java.util.List;
import java.util.Map;
import java.util.TreeMap;
import java.util.regex.Matcher;
import java.util.regex.Pattern;

/** The document once more, written as plainly as can be and otherwise than the class: for comparing. */
final class Model {
    private static final int UNKNOWN = -1, OUTSIDE = -2, STATE = -3, FULL = -4, NO = -5, NONE = -6;
    private static final long GONE = -1000000000000000000L;
    private static final Pattern ACT = Pattern.compile("\\.|[A-F](?:[psx]|i[0-2]|l[0-9])");
    private static final Pattern VOYAGES = Pattern.compile("(?:" + ACT.pattern() + ")*");

    /** "AGE", "WORTH", "SUM0" .. "SUM2", "LOAD", "CREW", "AFLOAT" of each SHIP that is there. */
    private Map<Integer, Map<String, Integer>> ships = new TreeMap<>();
    /** "NERVE", "FREIGHT", "SEASON", "seasons", "GAIN", "DROWNED". */
    private Map<String, Integer> owner = new HashMap<>();
    private String text = "";
    private List<int[]> tales = new ArrayList<>();
    private final Map<Integer, Model> images = new HashMap<>();
    private static final List<int[]> NAMINGS = new ArrayList<>();

    Model() {
        for (String name : new String[] {"SEASON", "seasons", "GAIN", "DROWNED"}) {
            owner.put(name, 0);
        }
        owner.put("NERVE", 60);
        owner.put("FREIGHT", 5);
        if (NAMINGS.isEmpty()) {
            allNamings(new int[8], 0, 0);
        }
    }

    /** All ways to be ships: the number of each name's ship, new ships in order. */
    private static void allNamings(int[] naming, int name, int ships) {
        if (name == 8) {
            NAMINGS.add(naming.clone());
            return;
        }
        for (int ship = 0; ship <= ships; ship++) {
            naming[name] = ship;
            allNamings(naming, name + 1, Math.max(ships, ship + 1));
        }
    }

    private static boolean out(int v, int least, int most) {
        return v < least || v > most;
    }

    private Model copy() {
        Model copy = new Model();
        for (int number : ships.keySet()) {
            copy.ships.put(number, new HashMap<>(ships.get(number)));
        }
        copy.owner = new HashMap<>(owner);
        copy.tales = new ArrayList<>(tales);
        return copy;
    }

    // ---- 1

    int ship(int ship, int age, int worth, int crew) {
        if (out(ship, 0, 5)) {
            return UNKNOWN;
        }
        if (out(age, 0, 40) || out(worth, 0, 99) || out(crew, 1, 20)) {
            return OUTSIDE;
        }
        ships.put(ship, new HashMap<>(Map.of("AGE", age, "WORTH", worth, "CREW", crew, "LOAD", 0, "AFLOAT", 1,
                "SUM0", 0, "SUM1", 0, "SUM2", 0)));
        return ships.size();
    }

    int sell(int ship) {
        return ships.remove(ship) == null ? UNKNOWN : ships.size();
    }

    int insure(int ship, int office, int v) {
        if (!ships.containsKey(ship)) {
            return UNKNOWN;
        }
        return out(office, 0, 2) || out(v, 0, 99) ? OUTSIDE : ships.get(ship).put("SUM" + office, v);
    }

    int load(int ship, int v) {
        if (!ships.containsKey(ship)) {
            return UNKNOWN;
        }
        return out(v, 0, 9) ? OUTSIDE : ships.get(ship).put("LOAD", v);
    }

    int set(int which, int v) {
        if (out(which, 0, 2) || out(v, 0, new int[] {99, 20, 1}[which])) {
            return OUTSIDE;
        }
        return owner.put(new String[] {"NERVE", "FREIGHT", "SEASON"}[which], v);
    }

    int say(int sign) {
        if (out(sign, 33, 126)) {
            return OUTSIDE;
        }
        if (text.length() == 60) {
            return FULL;
        }
        text += (char) sign;
        return text.length();
    }

    int wipe() {
        int before = text.length();
        text = "";
        return before;
    }

    int fault() {
        for (int length = 1; length <= text.length(); length++) {
            Matcher matcher = VOYAGES.matcher(text.substring(0, length));
            if (!matcher.matches() && !matcher.hitEnd()) {
                return length - 1;
            }
        }
        return VOYAGES.matcher(text).matches() ? NONE : text.length();
    }

    // ---- 2

    private int risk(Map<String, Integer> one, int load) {
        return one.get("AGE") + 3 * load + 15 * owner.get("SEASON");
    }

    private static int sums(Map<String, Integer> one) {
        return one.get("SUM0") + one.get("SUM1") + one.get("SUM2");
    }

    /** Tries an ACT: 0 (and it is done), or the least reason why it can not be. */
    private int tried(String act) {
        if (act.equals(".")) {
            if (owner.get("seasons") == 99) {
                return 6;
            }
            owner.merge("seasons", 1, Integer::sum);
            owner.put("SEASON", owner.get("SEASON") == 0 ? 1 : 0);
            return 0;
        }
        Map<String, Integer> one = ships.get(act.charAt(0) - 'A');
        if (one == null) {
            return 1;
        }
        if (one.get("AFLOAT") == 0) {
            return 2;
        }
        switch (act.charAt(1)) {
            case 'i':
                String sum = "SUM" + act.charAt(2);
                if (one.get(sum) > 89) {
                    return 3;
                }
                one.put(sum, one.get(sum) + 10);
                return 0;
            case 'l':
                int load = Integer.parseInt(act.substring(2));
                return one.put("LOAD", load) == load ? 4 : 0;
            case 'p':
                one.put("AGE", one.get("AGE") / 2);
                return 0;
            default:
                return triedSailing(one, act.charAt(1) == 'x');
        }
    }

    private int triedSailing(Map<String, Integer> one, boolean sinks) {
        if (one.get("LOAD") == 0) {
            return 4;
        }
        if (risk(one, one.get("LOAD")) > owner.get("NERVE")) {
            return 5;
        }
        if (sinks) {
            owner.merge("GAIN", sums(one) - one.get("WORTH"), Integer::sum);
            owner.merge("DROWNED", one.get("CREW"), Integer::sum);
            one.put("AFLOAT", 0);
        } else {
            owner.merge("GAIN", one.get("LOAD") * owner.get("FREIGHT"), Integer::sum);
            one.put("AGE", Math.min(40, one.get("AGE") + 1));
            one.put("LOAD", 0);
        }
        return 0;
    }

    private List<String> acts() {
        List<String> acts = new ArrayList<>();
        Matcher matcher = ACT.matcher(text);
        while (matcher.find()) {
            acts.add(matcher.group());
        }
        return acts;
    }

    private boolean triedAll() {
        for (String act : acts()) {
            if (tried(act) != 0) {
                return false;
            }
        }
        return true;
    }

    /** This with the text's ACTS tried, as far as they can be. */
    private Model trial() {
        Model trial = copy();
        trial.text = text;
        return trial;
    }

    int judge(int what) {
        if (out(what, 0, 2)) {
            return OUTSIDE;
        }
        if (fault() != NONE) {
            return NO;
        }
        Model trial = trial();
        int sailings = 0;
        List<String> acts = acts();
        for (int act = 0; act < acts.size(); act++) {
            int why = trial.tried(acts.get(act));
            if (why != 0) {
                return what == 0 ? act : what == 1 ? why : STATE;
            }
            sailings += acts.get(act).matches(".[sx]") ? 1 : 0;
        }
        return what == 2 ? sailings : NONE;
    }

    private int refusal() {
        return fault() != NONE ? NO : trial().triedAll() ? 0 : STATE;
    }

    int behind(int ship, int what) {
        if (!ships.containsKey(ship)) {
            return UNKNOWN;
        }
        if (out(what, 0, 4)) {
            return OUTSIDE;
        }
        if (refusal() != 0) {
            return refusal();
        }
        Model trial = trial();
        trial.triedAll();
        Map<String, Integer> one = trial.ships.get(ship);
        return new int[] {one.get("AGE"), one.get("LOAD"), sums(one), trial.risk(one, one.get("LOAD")), one.get("AFLOAT")}[what];
    }

    int total(int what) {
        if (out(what, 0, 3)) {
            return OUTSIDE;
        }
        if (refusal() != 0) {
            return refusal();
        }
        Model trial = trial();
        trial.triedAll();
        int told = trial.owner.get(new String[] {"GAIN", "DROWNED", "SEASON", "seasons"}[what]);
        return what == 0 ? told + 100000 : told;
    }

    int sunk(int what) {
        if (out(what, 0, 2)) {
            return OUTSIDE;
        }
        if (refusal() != 0) {
            return refusal();
        }
        List<Integer> sinking = new ArrayList<>();
        List<String> acts = acts();
        for (int act = 0; act < acts.size(); act++) {
            if (acts.get(act).endsWith("x")) {
                sinking.add(act);
            }
        }
        if (what == 2) {
            return sinking.size();
        }
        if (sinking.isEmpty()) {
            return NONE;
        }
        return what == 0 ? sinking.get(0) : acts.get(sinking.get(0)).charAt(0) - 'A';
    }

    int done() {
        if (refusal() != 0) {
            return refusal();
        }
        triedAll();
        int acts = acts().size();
        text = "";
        return acts;
    }

    // ---- 3

    private static long fraction(BigInteger upper, BigInteger lower, int part) {
        BigInteger common = upper.gcd(lower);
        return (part == 0 ? upper : lower).divide(common).longValueExact();
    }

    private static BigInteger big(long v) {
        return BigInteger.valueOf(v);
    }

    private long hundredfold(Map<String, Integer> one, int load, int paid) {
        int risk = risk(one, load);
        return (long) risk * (paid - one.get("WORTH")) + (100L - risk) * load * owner.get("FREIGHT");
    }

    long mean(int ship, int n, int part) {
        if (!ships.containsKey(ship)) {
            return GONE + UNKNOWN;
        }
        if (out(n, 0, 9) || out(part, 0, 1)) {
            return GONE + OUTSIDE;
        }
        return fraction(big(hundredfold(ships.get(ship), n, sums(ships.get(ship)))), big(100), part);
    }

    private int deepest(Map<String, Integer> one, int paid) {
        int best = 9;
        for (int load = 9; load >= 1; load--) {
            best = hundredfold(one, load, paid) >= hundredfold(one, best, paid) ? load : best;
        }
        return best;
    }

    int deep(int ship) {
        return ships.containsKey(ship) ? deepest(ships.get(ship), sums(ships.get(ship))) : UNKNOWN;
    }

    int share(int ship, int v) {
        if (!ships.containsKey(ship)) {
            return UNKNOWN;
        }
        if (out(v, 1, 9)) {
            return OUTSIDE;
        }
        int least = NONE;
        for (int share = 10; share >= 0; share--) {
            if (deepest(ships.get(ship), sums(ships.get(ship)) * (10 - share) / 10) <= v) {
                least = share;
            }
        }
        return least;
    }

    long losses(int k, int part) {
        if (out(k, -1, 6) || out(part, 0, 1)) {
            return GONE + OUTSIDE;
        }
        List<Map<String, Integer>> afloat = new ArrayList<>(ships.values());
        afloat.removeIf(one -> one.get("AFLOAT") == 0);
        BigInteger lower = big(100).pow(afloat.size()), many = BigInteger.ZERO, mean = BigInteger.ZERO;
        for (int lost = 0; lost < 1 << afloat.size(); lost++) {
            BigInteger likely = BigInteger.ONE;
            long brought = 0;
            for (int i = 0; i < afloat.size(); i++) {
                Map<String, Integer> one = afloat.get(i);
                boolean sinks = (lost >> i) % 2 == 1;
                int risk = risk(one, one.get("LOAD"));
                likely = likely.multiply(big(sinks ? risk : 100 - risk));
                brought += sinks ? sums(one) - one.get("WORTH") : one.get("LOAD") * owner.get("FREIGHT");
            }
            many = Integer.bitCount(lost) >= k ? many.add(likely) : many;
            mean = mean.add(likely.multiply(big(brought)));
        }
        return fraction(k == -1 ? mean : many, lower, part);
    }

    private static int[] digits(int number) {
        String told = String.format("%06d", number);
        int[] digits = new int[6];
        for (int i = 0; i < 6; i++) {
            digits[i] = told.charAt(i) - '0';
        }
        return digits;
    }

    int fleet(int prices, int brings, int v, int what) {
        if (out(prices, 0, 999999) || out(brings, 0, 999999) || out(v, 0, 54) || out(what, 0, 1)) {
            return OUTSIDE;
        }
        int[] price = digits(prices), bring = digits(brings);
        int most = -1, which = -1;
        for (int bits = 63; bits >= 0; bits--) {
            int paid = 0, brought = 0;
            for (int ship = 0; ship < 6; ship++) {
                paid += (bits & 1 << ship) == 0 ? 0 : price[ship];
                brought += (bits & 1 << ship) == 0 ? 0 : bring[ship];
            }
            if (paid <= v && brought >= most) {
                most = brought;
                which = bits;
            }
        }
        return what == 0 ? most : which;
    }

    int holds(int weights, int what) {
        if (out(weights, 0, 999999) || out(what, 0, 1)) {
            return OUTSIDE;
        }
        int[] weight = digits(weights);
        int least = 99, which = -1;
        for (int bits = 63; bits >= 0; bits--) {
            int more = 0;
            for (int good = 0; good < 6; good++) {
                more += (bits & 1 << good) == 0 ? -weight[5 - good] : weight[5 - good];
            }
            if (Math.abs(more) <= least) {
                least = Math.abs(more);
                which = bits;
            }
        }
        return what == 0 ? least : which;
    }

    // ---- 4

    long meant(int p, int q, int n, int s, int part) {
        if (out(p, 0, 100) || out(q, 0, 100) || out(n, 0, 6) || out(s, 0, n) || out(part, 0, 1)) {
            return GONE + OUTSIDE;
        }
        BigInteger chance = big(p).pow(s).multiply(big(100 - p).pow(n - s));
        BigInteger will = big(q).pow(s).multiply(big(100 - q).pow(n - s));
        return chance.add(will).signum() == 0 ? part : fraction(will, chance.add(will), part);
    }

    int tale(int one, int two, boolean same) {
        if (out(one, 0, 7) || out(two, 0, 7) || one == two) {
            return UNKNOWN;
        }
        if (tales.size() == 8) {
            return FULL;
        }
        tales.add(new int[] {one, two, same ? 1 : 0});
        return tales.size();
    }

    int forget() {
        int before = tales.size();
        tales = new ArrayList<>();
        return before;
    }

    private static List<int[]> thatHold(List<int[]> namings, int[] tale) {
        List<int[]> holding = new ArrayList<>();
        for (int[] naming : namings) {
            if ((naming[tale[0]] == naming[tale[1]]) == (tale[2] == 1)) {
                holding.add(naming);
            }
        }
        return holding;
    }

    int broken(int what) {
        if (out(what, 0, 1)) {
            return OUTSIDE;
        }
        List<int[]> namings = NAMINGS;
        int first = NONE, many = 0;
        for (int tale = 0; tale < tales.size(); tale++) {
            List<int[]> holding = thatHold(namings, tales.get(tale));
            if (holding.isEmpty()) {
                first = many == 0 ? tale : first;
                many++;
            } else {
                namings = holding;
            }
        }
        return what == 0 ? first : many;
    }

    int ones() {
        List<int[]> namings = NAMINGS;
        for (int[] tale : tales) {
            List<int[]> holding = thatHold(namings, tale);
            namings = holding.isEmpty() ? namings : holding;
        }
        int least = 8;
        for (int[] naming : namings) {
            int most = 0;
            for (int ship : naming) {
                most = Math.max(most, ship + 1);
            }
            least = Math.min(least, most);
        }
        return least;
    }

    int berth(int v, int k, int what) {
        if (out(v, 1, 99) || out(k, 1, 9) || out(what, 0, 1)) {
            return OUTSIDE;
        }
        boolean[] wins = new boolean[v + k + 1];
        // Who finds the other one at v or above has won.
        for (int bid = v; bid < wins.length; bid++) {
            wins[bid] = true;
        }
        int least = NONE;
        for (int bid = v - 1; bid >= 0; bid--) {
            least = NONE;
            for (int more = k; more >= 1; more--) {
                least = wins[bid + more] ? least : more;
            }
            wins[bid] = least != NONE;
        }
        return what == 1 ? least : wins[0] ? 1 : 0;
    }

    int year(int seed, int m, int what) {
        if (out(seed, 0, 9999) || out(m, 1, 99) || out(what, 0, 2)) {
            return OUTSIDE;
        }
        Model trial = copy();
        long x = seed;
        for (int act = 0; act < m; act++) {
            x = (75 * x + 74) % 65537;
            trial.tried(trial.drawn((int) x));
        }
        if (what == 2) {
            int afloat = 0;
            for (Map<String, Integer> one : trial.ships.values()) {
                afloat += one.get("AFLOAT");
            }
            return afloat;
        }
        return what == 0 ? trial.owner.get("GAIN") + 100000 : trial.owner.get("DROWNED");
    }

    private String drawn(int x) {
        String letter = "ABCDEF".substring(x % 6, x % 6 + 1);
        int by = x / 48;
        switch (x / 6 % 8) {
            case 0: return letter + "i" + by % 3;
            case 1:
            case 2: return letter + "l" + by % 10;
            case 3: return letter + "p";
            case 4: return ".";
            default:
                Map<String, Integer> one = ships.get(x % 6);
                return letter + (one != null && by % 100 < risk(one, one.get("LOAD")) ? "x" : "s");
        }
    }

    int image(int k) {
        if (out(k, 0, 1)) {
            return OUTSIDE;
        }
        images.put(k, copy());
        return 1;
    }

    int restore(int k) {
        if (out(k, 0, 1)) {
            return OUTSIDE;
        }
        if (!images.containsKey(k)) {
            return STATE;
        }
        Model kept = images.get(k).copy();
        ships = kept.ships;
        owner = kept.owner;
        tales = kept.tales;
        return 1;
    }

    int told(int what) {
        int bits = 0;
        for (int number : ships.keySet()) {
            bits += 1 << number;
        }
        if (what == 0 || what == 1 || what == 6) {
            return what == 0 ? text.length() : what == 1 ? bits : tales.size();
        }
        if (what >= 2 && what <= 8) {
            String name = new String[] {"NERVE", "FREIGHT", "SEASON", "seasons", "", "DROWNED", "GAIN"}[what - 2];
            return owner.get(name) + (what == 8 ? 100000 : 0);
        }
        for (int number : ships.keySet()) {
            String[] items = {"AGE", "WORTH", "SUM0", "SUM1", "SUM2", "LOAD", "CREW", "AFLOAT"};
            for (int item = 0; item < items.length; item++) {
                if (what == 10 * (1 + number) + item) {
                    return ships.get(number).get(items[item]);
                }
            }
        }
        return OUTSIDE;
    }
}
