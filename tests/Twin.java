import java.math.BigInteger;
import java.util.ArrayList;
import java.util.List;
import java.util.regex.Matcher;
import java.util.regex.Pattern;

// Long runs of drawn calls on the class and on a slow twin, written apart from it and straight
// from the document: every answer is held against the twin's.
public final class Twin {
    private static final int NONE = -1, BAD = -2, NO = -3, FULL = -4;
    private static final BigInteger ZERO = BigInteger.ZERO, ONE = BigInteger.ONE;
    private static final Pattern TOKEN = Pattern.compile(" *([a-z]+|[0-9]+|;)");

    // ---- kinds, each under the one told

    private static class Kind {
        void begin() {
        }

        void ahead(int d, String what) {
        }

        int blue(int d, int load, int warm, String what) {
            return 0;
        }

        int sweet(int d, int warm) {
            return 0;
        }

        int sharp(int d, int load, int warm) {
            return 0;
        }

        int black(int d, int load) {
            return 0;
        }

        final int[] give(int d, int load, int warm, String what) {
            ahead(d, what);
            if (what.equals("stand")) {
                return new int[4];
            }
            return new int[] {blue(d, load, warm, what), sweet(d, warm), sharp(d, load, warm), black(d, load)};
        }
    }

    private static class Ringed extends Kind {
        @Override int blue(int d, int load, int warm, String what) {
            return d * load;
        }
    }

    private static final class Stemmed extends Ringed {
        private int held;

        @Override void begin() {
            held = 0;
        }

        @Override void ahead(int d, String what) {
            held += what.equals("stand") ? d : what.equals("coast") ? 3 * d : 0;
            held = held > 30 ? 30 : held;
        }

        @Override int blue(int d, int load, int warm, String what) {
            int most = super.blue(d, load, warm, what) > 0 ? 4 * d : what.equals("coast") ? 0 : 1;
            int given = held < most ? held : most;
            held -= given;
            return given;
        }
    }

    private static class Cracked extends Kind {
        @Override int sweet(int d, int warm) {
            return d * (100 - warm) / 20;
        }
    }

    private static final class Late extends Cracked {
        @Override int sharp(int d, int load, int warm) {
            return super.sweet(d, warm) / 2 + (load == 0 ? d : 0);
        }

        @Override int sweet(int d, int warm) {
            return 0;
        }
    }

    private static class Over extends Kind {
        @Override int black(int d, int load) {
            return load > 4 ? d * (load - 4) : 0;
        }
    }

    private static final class Starved extends Over {
        @Override int black(int d, int load) {
            return super.black(d, load == 0 ? 0 : load + 2) + (load > 6 ? d : 0);
        }
    }

    private static final class Worn extends Ringed {
        @Override int blue(int d, int load, int warm, String what) {
            return super.blue(d, load, warm, what) / 2;
        }

        @Override int sweet(int d, int warm) {
            return warm < 30 ? 1 : 0;
        }
    }

    private static Kind kindOf(int kind) {
        switch (kind) {
            case 0: return new Ringed();
            case 1: return new Stemmed();
            case 2: return new Cracked();
            case 3: return new Late();
            case 4: return new Over();
            case 5: return new Starved();
            default: return new Worn();
        }
    }

    // ---- the twin's state

    private static final class State {
        String text = "";
        int[] set = {0, 5, 8, 9};
        int[] priors = {1, 1, 1, 1, 1, 1, 1};
        int[][] motor = new int[4][];
        List<int[]> looks = new ArrayList<>();
        List<int[]> parts = new ArrayList<>();

        State copy() {
            State other = new State();
            other.text = text;
            other.set = set.clone();
            other.priors = priors.clone();
            other.motor = motor.clone();
            other.looks = new ArrayList<>(looks);
            other.parts = new ArrayList<>(parts);
            return other;
        }
    }

    private State s = new State();
    private final State[] images = new State[2];
    private BigInteger above = ZERO;
    private BigInteger below = ONE;
    private final int[] status = new int[3];

    private int bad() {
        status[0]++;
        return BAD;
    }

    private int no() {
        status[1]++;
        return NO;
    }

    private int full() {
        status[2]++;
        return FULL;
    }

    private static boolean in(int v, int least, int most) {
        return least <= v && v <= most;
    }

    // ---- the day

    private List<String> whats;
    private List<Integer> loads;

    /** Reads the day; where it is faulty, or NONE. */
    private int read() {
        whats = new ArrayList<>();
        loads = new ArrayList<>();
        Matcher m = TOKEN.matcher(s.text);
        List<String> tokens = new ArrayList<>();
        List<Integer> places = new ArrayList<>();
        int at = 0;
        while (m.find(at) && m.start() == at) {
            tokens.add(m.group(1));
            places.add(m.start(1));
            at = m.end();
        }
        while (at < s.text.length() && s.text.charAt(at) == ' ') {
            at++;
        }
        tokens.add(at < s.text.length() ? "?" : "");
        places.add(at);
        int i = 0;
        while (!tokens.get(i).isEmpty()) {
            String word = tokens.get(i);
            if (!word.matches("stand|idle|pull|coast")) {
                return places.get(i);
            }
            i++;
            int load = 0;
            if (word.equals("pull")) {
                if (!tokens.get(i).matches("0?[1-9]")) {
                    return places.get(i);
                }
                load = Integer.parseInt(tokens.get(i++));
            }
            if (!tokens.get(i).matches("0?[1-9]|[1-5][0-9]|60")) {
                return places.get(i);
            }
            int n = Integer.parseInt(tokens.get(i));
            if (whats.size() + n > 120) {
                return places.get(i);
            }
            i++;
            for (int k = 0; k < n; k++) {
                whats.add(word);
                loads.add(load);
            }
            if (!tokens.get(i).equals(";")) {
                return places.get(i);
            }
            i++;
        }
        return NONE;
    }

    private int[] warmths(int first) {
        int[] warm = new int[whats.size() + 1];
        warm[0] = first;
        for (int i = 0; i < whats.size(); i++) {
            int then = whats.get(i).equals("stand") ? warm[i] - 1 : warm[i] + 2 + loads.get(i) / 3;
            warm[i + 1] = then < 0 ? 0 : then > 100 ? 100 : then;
        }
        return warm;
    }

    /** What a fault gives: of each minute, of each color. */
    private int[][] given(int kind, int deep, int first) {
        int[] warm = warmths(first);
        Kind k = kindOf(kind);
        k.begin();
        int[][] all = new int[whats.size()][];
        for (int i = 0; i < all.length; i++) {
            all[i] = k.give(deep, loads.get(i), warm[i], whats.get(i));
        }
        return all;
    }

    private int smokeNow(int minute, int color, int cut) {
        int sum = 0;
        for (int c = 0; c < 4; c++) {
            if (c != cut && s.motor[c] != null) {
                sum += given(s.motor[c][0], s.motor[c][1], s.set[0])[minute][color];
            }
        }
        return sum;
    }

    int type(long v, int n) {
        if (!in(n, 1, 8)) {
            return bad();
        }
        if (s.text.length() + n > 120) {
            return full();
        }
        StringBuilder more = new StringBuilder();
        for (int i = 0; i < n; i++) {
            more.insert(0, (char) (v >>> (8 * i) & 0xff));
        }
        s.text += more;
        return s.text.length();
    }

    int clear() {
        int had = s.text.length();
        s.text = "";
        return had;
    }

    int faulty() {
        return read();
    }

    int minutes() {
        return read() == NONE ? whats.size() : no();
    }

    int put(int what, int v) {
        int[][] bounds = {{0, 100}, {1, 40}, {1, 9}, {0, 99}};
        if (!in(what, 0, 3) || !in(v, bounds[what][0], bounds[what][1])) {
            return bad();
        }
        int was = s.set[what];
        s.set[what] = v;
        return was;
    }

    int prior(int kind, int v) {
        if (!in(kind, 0, 6) || !in(v, 0, 9)) {
            return bad();
        }
        int was = s.priors[kind];
        s.priors[kind] = v;
        return was;
    }

    int fault(int cylinder, int kind, int deep) {
        if (!in(cylinder, 0, 3)) {
            return bad();
        }
        if (kind == NONE && deep == 0) {
            s.motor[cylinder] = null;
            return 1;
        }
        if (!in(kind, 0, 6) || !in(deep, 1, 3)) {
            return bad();
        }
        s.motor[cylinder] = new int[] {kind, deep};
        return 1;
    }

    int warm(int minute) {
        if (read() != NONE) {
            return no();
        }
        return in(minute, 0, whats.size()) ? warmths(s.set[0])[minute] : bad();
    }

    int gives(int kind, int deep, int minute, int color) {
        if (read() != NONE) {
            return no();
        }
        if (!in(kind, 0, 6) || !in(deep, 1, 3) || !in(minute, 0, whats.size() - 1) || !in(color, 0, 3)) {
            return bad();
        }
        return given(kind, deep, s.set[0])[minute][color];
    }

    int smoke(int minute, int color, int cut) {
        if (read() != NONE) {
            return no();
        }
        if (!in(minute, 0, whats.size() - 1) || !in(color, 0, 3) || !in(cut, -1, 3)) {
            return bad();
        }
        return smokeNow(minute, color, cut);
    }

    int goes(int what) {
        if (!in(what, 0, 1)) {
            return bad();
        }
        if (read() != NONE) {
            return no();
        }
        int sum = 0;
        for (int[] fault : s.motor) {
            if (fault != null) {
                for (int[] minute : given(fault[0], fault[1], s.set[0])) {
                    sum += minute[what];
                }
            }
        }
        return sum;
    }

    // ---- guesses

    int look(int minute, int color, int cut, int level) {
        if (!in(minute, 0, 119) || !in(color, 0, 3) || !in(cut, -1, 3) || !in(level, 0, 2)) {
            return bad();
        }
        if (s.looks.size() == 8) {
            return full();
        }
        s.looks.add(new int[] {minute, color, cut, level});
        return s.looks.size() - 1;
    }

    int forget() {
        int had = s.looks.size();
        s.looks = new ArrayList<>();
        return had;
    }

    /** Of each guess, in their order: the fault of each cylinder, 3 times kind and depth less 1. */
    private static int[][] guesses() {
        List<int[]> all = new ArrayList<>();
        all.add(new int[] {NONE, NONE, NONE, NONE});
        for (int c = 0; c < 4; c++) {
            for (int f = 0; f < 21; f++) {
                int[] one = {NONE, NONE, NONE, NONE};
                one[c] = f;
                all.add(one);
            }
        }
        int[][] pairs = {{0, 1}, {0, 2}, {0, 3}, {1, 2}, {1, 3}, {2, 3}};
        for (int[] pair : pairs) {
            for (int f = 0; f < 441; f++) {
                int[] both = {NONE, NONE, NONE, NONE};
                both[pair[0]] = f / 21;
                both[pair[1]] = f % 21;
                all.add(both);
            }
        }
        return all.toArray(new int[0][]);
    }

    private static final int[][] GUESSES = guesses();

    private static int together(int[] guess, int[] each, int cut) {
        int sum = 0;
        for (int c = 0; c < 4; c++) {
            sum += guess[c] == NONE || c == cut ? 0 : each[guess[c]];
        }
        return sum;
    }

    private int level(int amount) {
        return amount == 0 ? 0 : amount <= s.set[1] ? 1 : 2;
    }

    private int[] eachOf(int[][][] given, int minute, int color) {
        int[] each = new int[21];
        for (int f = 0; f < 21; f++) {
            each[f] = given[f][minute][color];
        }
        return each;
    }

    private int[][][] givenByAll() {
        int[][][] given = new int[21][][];
        for (int f = 0; f < 21; f++) {
            given[f] = given(f / 3, f % 3 + 1, s.set[0]);
        }
        return given;
    }

    /** The weights of all guesses; null if there is nothing to ask of them. */
    private BigInteger[] weights() {
        if (read() != NONE) {
            return null;
        }
        int[][][] given = givenByAll();
        BigInteger[] weights = new BigInteger[GUESSES.length];
        for (int g = 0; g < weights.length; g++) {
            int many = 0;
            long weight = 1;
            for (int f : GUESSES[g]) {
                if (f != NONE) {
                    many++;
                    weight *= s.priors[f / 3] * (4 - (f % 3 + 1));
                }
            }
            weight = many == 0 ? s.set[3] : many == 1 ? 9 * weight : weight;
            weights[g] = BigInteger.valueOf(weight);
        }
        for (int[] look : s.looks) {
            if (look[0] < whats.size()) {
                int[] each = eachOf(given, look[0], look[1]);
                for (int g = 0; g < weights.length; g++) {
                    boolean right = level(together(GUESSES[g], each, look[2])) == look[3];
                    weights[g] = weights[g].multiply(BigInteger.valueOf(right ? 2 * s.set[2] : 10 - s.set[2]));
                }
            }
        }
        return sum(weights).signum() == 0 ? null : weights;
    }

    private static BigInteger sum(BigInteger[] weights) {
        BigInteger all = ZERO;
        for (BigInteger weight : weights) {
            all = all.add(weight);
        }
        return all;
    }

    private int fraction(BigInteger a, BigInteger b) {
        BigInteger common = a.gcd(b);
        above = a.divide(common);
        below = b.divide(common);
        return 1;
    }

    int odds(int cylinder, int kind) {
        if (!in(cylinder, 0, 3) || !in(kind, 0, 7)) {
            return bad();
        }
        BigInteger[] weights = weights();
        if (weights == null) {
            return no();
        }
        BigInteger part = ZERO;
        for (int g = 0; g < weights.length; g++) {
            int f = GUESSES[g][cylinder];
            if ((f == NONE ? 7 : f / 3) == kind) {
                part = part.add(weights[g]);
            }
        }
        return fraction(part, sum(weights));
    }

    int two() {
        BigInteger[] weights = weights();
        if (weights == null) {
            return no();
        }
        BigInteger part = ZERO;
        for (int g = 85; g < weights.length; g++) {
            part = part.add(weights[g]);
        }
        return fraction(part, sum(weights));
    }

    int likeliest() {
        BigInteger[] weights = weights();
        if (weights == null) {
            return no();
        }
        int best = 0;
        for (int g = 1; g < weights.length; g++) {
            best = weights[g].compareTo(weights[best]) > 0 ? g : best;
        }
        return best;
    }

    int guess(int number, int cylinder) {
        if (!in(number, 0, 2730) || !in(cylinder, 0, 3)) {
            bad();
            return -10;
        }
        return GUESSES[number][cylinder];
    }

    int next(int minute) {
        BigInteger[] weights = weights();
        if (weights == null) {
            return no();
        }
        if (!in(minute, 0, whats.size() - 1)) {
            return bad();
        }
        int[][][] given = givenByAll();
        int best = NONE;
        BigInteger least = null;
        for (int color = 0; color < 4; color++) {
            int[] each = eachOf(given, minute, color);
            for (int cut = 0; cut <= 4; cut++) {
                BigInteger[] levels = {ZERO, ZERO, ZERO};
                for (int g = 0; g < weights.length; g++) {
                    int level = level(together(GUESSES[g], each, cut));
                    levels[level] = levels[level].add(weights[g]);
                }
                BigInteger most = levels[0].max(levels[1]).max(levels[2]);
                if (best == NONE || most.compareTo(least) < 0) {
                    best = 10 * color + cut;
                    least = most;
                }
            }
        }
        return best;
    }

    int leaks(int tins) {
        if (!in(tins, 0, 99999)) {
            return bad();
        }
        BigInteger[] weights = weights();
        if (weights == null) {
            return no();
        }
        int[][][] given = givenByAll();
        int[] burnt = new int[21];
        for (int f = 0; f < 21; f++) {
            for (int[] minute : given[f]) {
                burnt[f] += minute[0];
            }
        }
        BigInteger part = ZERO;
        for (int g = 0; g < weights.length; g++) {
            part = together(GUESSES[g], burnt, NONE) < tins ? part.add(weights[g]) : part;
        }
        return fraction(part, sum(weights));
    }

    int hidden() {
        if (read() != NONE) {
            return no();
        }
        int bits = 0;
        for (int kind = 0; kind < 7; kind++) {
            int sum = 0;
            for (int[] minute : given(kind, 3, 100)) {
                sum += minute[0] + minute[1] + minute[2] + minute[3];
            }
            bits += sum == 0 ? 1 << kind : 0;
        }
        return bits;
    }

    // ---- how much longer

    int gone(int deep, int load, int n) {
        if (!in(deep, 1, 3) || !in(load, 0, 9) || !in(n, 0, 20)) {
            return bad();
        }
        // at least 4 - deep of n days on which it gets deeper
        BigInteger part = ZERO;
        BigInteger ways = ONE;
        for (int days = 0; days <= n; days++) {
            if (days >= 4 - deep) {
                part = part.add(ways.multiply(BigInteger.valueOf(load).pow(days))
                        .multiply(BigInteger.valueOf(20 - load).pow(n - days)));
            }
            ways = ways.multiply(BigInteger.valueOf(n - days)).divide(BigInteger.valueOf(days + 1));
        }
        return fraction(part, BigInteger.valueOf(20).pow(n));
    }

    private int firstLoad;

    /** What it comes to, times 20 by the power of n. */
    private BigInteger best(int deep, int n, int w, int loss) {
        if (n == 0) {
            return ZERO;
        }
        BigInteger behind = best(deep, n - 1, w, loss);
        BigInteger scale = BigInteger.valueOf(20).pow(n - 1);
        BigInteger deeper = deep == 3 ? scale.multiply(BigInteger.valueOf(-loss)) : best(deep + 1, n - 1, w, loss);
        BigInteger most = null;
        int chosen = NONE;
        for (int l = 0; l <= 9; l++) {
            BigInteger worth = scale.multiply(BigInteger.valueOf(20L * l * w))
                    .add(deeper.multiply(BigInteger.valueOf(l)))
                    .add(behind.multiply(BigInteger.valueOf(20 - l)));
            if (most == null || worth.compareTo(most) > 0) {
                most = worth;
                chosen = l;
            }
        }
        firstLoad = chosen;
        return most;
    }

    int harvest(int deep, int n, int w, int loss) {
        if (!in(deep, 1, 3) || !in(n, 0, 10) || !in(w, 0, 999) || !in(loss, 0, 99999)) {
            return bad();
        }
        return fraction(best(deep, n, w, loss), BigInteger.valueOf(20).pow(n));
    }

    int drive(int deep, int n, int w, int loss) {
        if (!in(deep, 1, 3) || !in(n, 1, 10) || !in(w, 0, 999) || !in(loss, 0, 99999)) {
            return bad();
        }
        best(deep, n, w, loss);
        return firstLoad;
    }

    int part(int cost, int hours, int a) {
        if (!in(cost, 1, 99) || !in(hours, 1, 99) || !in(a, 0, 10)) {
            return bad();
        }
        if (s.parts.size() == 6) {
            return full();
        }
        s.parts.add(new int[] {cost, hours, a});
        return s.parts.size() - 1;
    }

    int takes(int coin) {
        if (!in(coin, 0, 999)) {
            return bad();
        }
        int[] best = null;
        for (int set = 0; set < 1 << s.parts.size(); set++) {
            int[] now = {0, 0, set};
            for (int i = 0; i < s.parts.size(); i++) {
                int[] part = s.parts.get(i);
                now[0] -= (set & 1 << i) != 0 ? part[1] * part[2] : 0;
                now[1] += (set & 1 << i) != 0 ? part[0] : 0;
            }
            if (now[1] <= coin && (best == null || java.util.Arrays.compare(now, best) < 0)) {
                best = now;
            }
        }
        return best[2];
    }

    // ---- what there is

    private static List<Integer> limbs(BigInteger v) {
        List<Integer> limbs = new ArrayList<>();
        BigInteger base = BigInteger.valueOf(1073741824);
        for (BigInteger rest = v; rest.signum() > 0; rest = rest.divide(base)) {
            limbs.add(rest.mod(base).intValue());
        }
        return limbs;
    }

    int sign(int what) {
        if (!in(what, 0, 2)) {
            return bad();
        }
        return what == 0 ? above.signum() : limbs(what == 1 ? above : below).size();
    }

    int limb(int which, int i) {
        if (!in(which, 0, 1) || i < 0) {
            return bad();
        }
        List<Integer> limbs = limbs(which == 0 ? above : below);
        return i < limbs.size() ? limbs.get(i) : NONE;
    }

    int image(int i) {
        if (!in(i, 0, 1)) {
            return bad();
        }
        images[i] = s.copy();
        return 1;
    }

    int from(int i) {
        if (!in(i, 0, 1)) {
            return bad();
        }
        if (images[i] == null) {
            return no();
        }
        s = images[i].copy();
        return 1;
    }

    int status(int what) {
        if (!in(what, 0, 2)) {
            bad();
            return -1;
        }
        return status[what];
    }

    int count(int what) {
        if (!in(what, 0, 3)) {
            return bad();
        }
        int faults = 0;
        for (int[] fault : s.motor) {
            faults += fault != null ? 1 : 0;
        }
        return new int[] {s.text.length(), s.looks.size(), s.parts.size(), faults}[what];
    }

    long digest() {
        List<Long> all = new ArrayList<>();
        for (int what = 0; what < 4; what++) {
            all.add((long) count(what));
        }
        for (char c : s.text.toCharArray()) {
            all.add((long) c);
        }
        add(all, s.set);
        add(all, s.priors);
        for (int[] fault : s.motor) {
            all.add(fault == null ? -1L : 3 * fault[0] + fault[1] - 1);
        }
        for (int[] look : s.looks) {
            add(all, look);
        }
        for (int[] part : s.parts) {
            add(all, part);
        }
        for (int what = 0; what < 3; what++) {
            all.add((long) sign(what));
        }
        for (int limb : limbs(above)) {
            all.add((long) limb);
        }
        for (int limb : limbs(below)) {
            all.add((long) limb);
        }
        long h = 577;
        for (long v : all) {
            h = 31 * h + v;
        }
        return h;
    }

    private static void add(List<Long> all, int[] more) {
        for (int v : more) {
            all.add((long) v);
        }
    }

    // ---- drawn runs; the numbers come from a fixed chain, the same ones each time

    private static long chain;
    private static int wrong = 0;

    private static int draw(int below) {
        chain = chain * 6364136223846793005L + 1442695040888963407L;
        return (int) ((chain >>> 33) % below);
    }

    /** Mostly within the bounds, now and then just or far outside. */
    private static int draw(int least, int most) {
        switch (draw(40)) {
            case 0: return least - 1;
            case 1: return most + 1;
            case 2: return draw(2) == 0 ? Integer.MAX_VALUE : Integer.MIN_VALUE;
            case 3: return least;
            case 4: return most;
            default: return least + draw(most - least + 1);
        }
    }

    private static String drawNumber(int most) {
        int v = 1 + draw(most);
        if (draw(60) == 0) {
            v = draw(130);
        }
        return draw(12) == 0 && v < 10 ? "0" + v : "" + v;
    }

    private static String blanks(boolean needed) {
        int many = draw(8) == 0 ? 1 + draw(3) : 0;
        return " ".repeat(needed && many == 0 && draw(90) != 0 ? 1 : many);
    }

    private static String drawItem() {
        String[] words = {"stand", "idle", "pull", "coast"};
        String word = words[draw(4)];
        StringBuilder item = new StringBuilder(word);
        item.append(blanks(false));
        if (word.equals("pull")) {
            item.append(drawNumber(9)).append(blanks(true));
        }
        item.append(drawNumber(25)).append(blanks(false));
        if (draw(70) != 0) {
            item.append(';');
        }
        if (draw(70) == 0) {
            item.setCharAt(draw(item.length()), (char) draw(256));
        }
        return item.append(blanks(false)).toString();
    }

    private int run;

    private void due(String call, long got, long want) {
        if (got != want) {
            wrong++;
            if (wrong <= 40) {
                System.out.println("run " + run + ": " + call + " answered " + got + ", due is " + want);
            }
        }
    }

    private void typeItem(BlueSmoke x) {
        String item = drawItem();
        int at = 0;
        while (at < item.length()) {
            int n = 1 + draw(Math.min(8, item.length() - at));
            long v = draw(2) == 0 ? -1 : 0;
            for (int i = 0; i < n; i++) {
                v = v << 8 | item.charAt(at + i);
            }
            due("type(" + v + ", " + n + ")", x.type(v, n), type(v, n));
            at += n;
        }
    }

    private void call(BlueSmoke x) {
        int a;
        int b;
        int c;
        int d;
        switch (draw(34)) {
            case 0: case 1: case 2:
                typeItem(x);
                break;
            case 3:
                a = draw(1, 8);
                due("type(59, " + a + ")", x.type(59, a), type(59, a));
                break;
            case 4:
                if (draw(4) == 0 || s.text.length() > 100 || read() != NONE) {
                    due("clear()", x.clear(), clear());
                }
                break;
            case 5:
                due("faulty()", x.faulty(), faulty());
                break;
            case 6:
                due("minutes()", x.minutes(), minutes());
                break;
            case 7:
                a = draw(0, 3);
                b = a == 1 ? draw(1, 40) : a == 2 ? draw(1, 9) : draw(0, 99);
                due("put(" + a + ", " + b + ")", x.put(a, b), put(a, b));
                break;
            case 8:
                a = draw(0, 6);
                b = draw(3) == 0 ? 0 : draw(0, 9);
                due("prior(" + a + ", " + b + ")", x.prior(a, b), prior(a, b));
                break;
            case 9:
                a = draw(0, 3);
                b = draw(0, 6);
                c = b == NONE ? draw(2) : draw(1, 3);
                due("fault(" + a + ", " + b + ", " + c + ")", x.fault(a, b, c), fault(a, b, c));
                break;
            case 10:
                a = draw(0, Math.max(1, minutesNow()));
                due("warm(" + a + ")", x.warm(a), warm(a));
                break;
            case 11: case 12:
                a = draw(0, 6);
                b = draw(1, 3);
                c = draw(0, Math.max(1, minutesNow() - 1));
                d = draw(0, 3);
                due("gives(" + a + ", " + b + ", " + c + ", " + d + ")", x.gives(a, b, c, d), gives(a, b, c, d));
                break;
            case 13:
                a = draw(0, Math.max(1, minutesNow() - 1));
                b = draw(0, 3);
                c = draw(-1, 3);
                due("smoke(" + a + ", " + b + ", " + c + ")", x.smoke(a, b, c), smoke(a, b, c));
                break;
            case 14:
                a = draw(0, 1);
                due("goes(" + a + ")", x.goes(a), goes(a));
                break;
            case 15: case 16: case 17:
                a = draw(0, draw(5) == 0 ? 119 : Math.max(1, minutesNow() - 1));
                b = draw(0, 3);
                c = draw(-1, 3);
                d = draw(0, 2);
                due("look(" + a + ", " + b + ", " + c + ", " + d + ")", x.look(a, b, c, d), look(a, b, c, d));
                break;
            case 18:
                if (draw(3) == 0) {
                    due("forget()", x.forget(), forget());
                }
                break;
            default:
                ask(x);
        }
    }

    private int minutesNow() {
        return read() == NONE ? whats.size() : 0;
    }

    private void ask(BlueSmoke x) {
        int a;
        int b;
        int c;
        int d;
        switch (draw(20)) {
            case 0:
                a = draw(0, 3);
                b = draw(0, 7);
                due("odds(" + a + ", " + b + ")", x.odds(a, b), odds(a, b));
                break;
            case 1:
                due("two()", x.two(), two());
                break;
            case 2:
                due("likeliest()", x.likeliest(), likeliest());
                break;
            case 3:
                a = draw(0, 2730);
                b = draw(0, 3);
                due("guess(" + a + ", " + b + ")", x.guess(a, b), guess(a, b));
                break;
            case 4:
                a = draw(0, Math.max(1, minutesNow() - 1));
                due("next(" + a + ")", x.next(a), next(a));
                break;
            case 5:
                a = draw(3) == 0 ? draw(0, 99999) : draw(0, 300);
                due("leaks(" + a + ")", x.leaks(a), leaks(a));
                break;
            case 6:
                due("hidden()", x.hidden(), hidden());
                break;
            case 7: case 8:
                a = draw(1, 3);
                b = draw(0, 9);
                c = draw(0, 20);
                due("gone(" + a + ", " + b + ", " + c + ")", x.gone(a, b, c), gone(a, b, c));
                break;
            case 9: case 10:
                a = draw(1, 3);
                b = draw(0, 10);
                c = draw(0, 999);
                d = draw(2) == 0 ? draw(0, 99999) : draw(0, 20 * 999);
                due("harvest(" + a + ", " + b + ", " + c + ", " + d + ")", x.harvest(a, b, c, d), harvest(a, b, c, d));
                break;
            case 11:
                a = draw(1, 3);
                b = draw(1, 10);
                c = draw(0, 99);
                d = draw(0, 4000);
                due("drive(" + a + ", " + b + ", " + c + ", " + d + ")", x.drive(a, b, c, d), drive(a, b, c, d));
                break;
            case 12:
                a = draw(1, draw(2) == 0 ? 99 : 5);
                b = draw(1, draw(2) == 0 ? 99 : 4);
                c = draw(0, draw(2) == 0 ? 10 : 2);
                due("part(" + a + ", " + b + ", " + c + ")", x.part(a, b, c), part(a, b, c));
                break;
            case 13: case 14:
                a = draw(2) == 0 ? draw(0, 20) : draw(0, 999);
                due("takes(" + a + ")", x.takes(a), takes(a));
                break;
            case 15:
                a = draw(0, 1);
                due("image(" + a + ")", x.image(a), image(a));
                break;
            case 16:
                a = draw(0, 1);
                due("from(" + a + ")", x.from(a), from(a));
                break;
            case 17:
                a = draw(0, 2);
                due("status(" + a + ")", x.status(a), status(a));
                break;
            case 18:
                a = draw(0, 3);
                due("count(" + a + ")", x.count(a), count(a));
                break;
            default:
                a = draw(0, 2);
                due("sign(" + a + ")", x.sign(a), sign(a));
                a = draw(0, 1);
                b = draw(0, 3);
                due("limb(" + a + ", " + b + ")", x.limb(a, b), limb(a, b));
        }
    }

    public static void main(String[] args) {
        for (int run = 1; run <= 60; run++) {
            chain = run;
            BlueSmoke x = new BlueSmoke();
            Twin twin = new Twin();
            twin.run = run;
            for (int calls = 0; calls < 160; calls++) {
                twin.call(x);
                twin.due("digest()", x.digest(), twin.digest());
            }
            for (int what = 0; what < 3; what++) {
                twin.due("status(" + what + ")", x.status(what), twin.status(what));
            }
        }
        System.out.println(wrong == 0 ? "all answers are as the twin's" : wrong + " answers are not as the twin's");
        if (wrong != 0) {
            System.exit(1);
        }
    }
}
