import java.math.BigInteger;

// The edges that the document names of LONGER, HARVEST, THE SHED, IMAGES, THE FRACTION, STATUS and
// what there is (terms 3 and behind, promises 22 to 33), a sentence of it at a time; what refused
// calls leave as it was is in Refused.
public final class EdgesOfSheds {
    private static final int NONE = -1, BAD = -2, NO = -3, FULL = -4;
    private static final BigInteger BASE = BigInteger.valueOf(1073741824);
    private static final BigInteger TWENTY = BigInteger.valueOf(20);
    private static int wrong = 0;

    private static void due(String what, long got, long want) {
        if (got != want) {
            wrong++;
            System.out.println(what + " answered " + got + ", due is " + want);
        }
    }

    /** Eight bytes a call: an object is used for at most 512 calls. */
    private static void tell(BlueSmoke x, String text) {
        for (int at = 0; at < text.length(); at += 8) {
            int n = Math.min(8, text.length() - at);
            long v = 0;
            for (int i = 0; i < n; i++) {
                v = v << 8 | text.charAt(at + i);
            }
            x.type(v, n);
        }
    }

    private static void dueFraction(String what, BlueSmoke x, int answer, long part, long whole) {
        dueFraction(what, x, answer, BigInteger.valueOf(part), BigInteger.valueOf(whole));
    }

    private static void dueFraction(String what, BlueSmoke x, int answer, BigInteger part, BigInteger whole) {
        BigInteger common = part.gcd(whole);
        due(what, answer, 1);
        due(what + ": sign", x.sign(0), part.signum());
        dueLimbs(what + ": above", x, 0, part.divide(common));
        dueLimbs(what + ": below", x, 1, whole.divide(common));
    }

    private static void dueLimbs(String what, BlueSmoke x, int which, BigInteger value) {
        int many = 0;
        for (BigInteger rest = value; rest.signum() > 0; rest = rest.divide(BASE)) {
            due(what + " " + many, x.limb(which, many), rest.mod(BASE).longValue());
            many++;
        }
        due(what + ", how many", x.sign(which + 1), many);
        due(what + ", no more", x.limb(which, many), NONE);
    }

    private static long mix(long start, long... values) {
        long h = start;
        for (long v : values) {
            h = 31 * h + v;
        }
        return h;
    }

    // ---- "a FAULT d DEEP, driven with LOAD l (0 .. 9) each day: by chance l of 20 it is 1 DEEPER behind
    // it; from 3 DEEP on it is GONE then. The chance that it is GONE behind n days (0 .. 20)."

    /** It is GONE, if on at least (4 less d) of n days it got deeper. */
    private static void goneByAllThereIs() {
        for (int deep = 1; deep <= 3; deep++) {
            for (int load = 0; load <= 9; load++) {
                BlueSmoke x = new BlueSmoke();
                for (int n = 0; n <= 20; n++) {
                    BigInteger stays = BigInteger.ZERO;
                    for (int days = 0; days < 4 - deep && days <= n; days++) {
                        stays = stays.add(ways(n, days).multiply(BigInteger.valueOf(load).pow(days))
                                .multiply(BigInteger.valueOf(20 - load).pow(n - days)));
                    }
                    BigInteger all = TWENTY.pow(n);
                    dueFraction("GONE " + deep + " " + load + " " + n, x, x.gone(deep, load, n), all.subtract(stays), all);
                }
            }
        }
    }

    private static BigInteger ways(int n, int days) {
        BigInteger ways = BigInteger.ONE;
        for (int i = 0; i < days; i++) {
            ways = ways.multiply(BigInteger.valueOf(n - i)).divide(BigInteger.valueOf(i + 1));
        }
        return ways;
    }

    private static void goneByHand() {
        BlueSmoke x = new BlueSmoke();
        for (int deep = 1; deep <= 3; deep++) {
            dueFraction("no days", x, x.gone(deep, 9, 0), 0, 1);
            dueFraction("no LOAD", x, x.gone(deep, 0, 20), 0, 1);
            dueFraction("a day less than it takes", x, x.gone(deep, 9, 3 - deep), 0, 1);
        }
        dueFraction("as soon as can be", x, x.gone(1, 9, 3), 729, 8000);
        dueFraction("as soon as can be", x, x.gone(2, 9, 2), 81, 400);
        dueFraction("as soon as can be", x, x.gone(3, 9, 1), 9, 20);
        dueFraction("once GONE it is GONE", x, x.gone(3, 9, 2), 400 - 121, 400);
        dueFraction("the least LOAD", x, x.gone(3, 1, 1), 1, 20);
    }

    // ---- HARVEST, DRIVE: worked out anew, day by day

    private static int best;

    /** What n days come to, times 20 by the power of n; best is the LOAD of the first one. */
    private static BigInteger comesTo(int deep, int n, int w, int loss) {
        if (n == 0) {
            return BigInteger.ZERO;
        }
        BigInteger as = comesTo(deep, n - 1, w, loss);
        BigInteger worse = deep == 3 ? TWENTY.pow(n - 1).multiply(BigInteger.valueOf(-loss))
                : comesTo(deep + 1, n - 1, w, loss);
        BigInteger most = null;
        int chosen = 0;
        for (int load = 0; load <= 9; load++) {
            BigInteger sum = TWENTY.pow(n).multiply(BigInteger.valueOf((long) load * w))
                    .add(worse.multiply(BigInteger.valueOf(load)))
                    .add(as.multiply(BigInteger.valueOf(20 - load)));
            if (most == null || sum.compareTo(most) > 0) {
                most = sum;
                chosen = load;
            }
        }
        best = chosen;
        return most;
    }

    private static void harvestAtItsEdges() {
        for (int deep = 1; deep <= 3; deep++) {
            for (int n : new int[] {0, 1, 2, 9, 10}) {
                BlueSmoke x = new BlueSmoke();
                for (int w : new int[] {0, 1, 998, 999}) {
                    for (int loss : new int[] {0, 1, 20 * w, 20 * w + 1, 99998, 99999}) {
                        String what = deep + " " + n + " " + w + " " + loss;
                        BigInteger sum = comesTo(deep, n, w, loss);
                        dueFraction("HARVEST " + what, x, x.harvest(deep, n, w, loss), sum, TWENTY.pow(n));
                        if (n > 0) {
                            due("DRIVE " + what, x.drive(deep, n, w, loss), best);
                        }
                    }
                }
            }
        }
    }

    private static void harvestByHand() {
        BlueSmoke x = new BlueSmoke();
        dueFraction("of no days", x, x.harvest(1, 0, 999, 99999), 0, 1);
        dueFraction("of a day for nothing", x, x.harvest(1, 1, 0, 0), 0, 1);
        dueFraction("1 or 2 DEEP a day has no LOSS", x, x.harvest(2, 1, 999, 99999), 8991, 1);
        dueFraction("3 DEEP: 9 w less 9 of 20 of LOSS", x, x.harvest(3, 1, 999, 99), 179820 - 891, 20);
        dueFraction("LOSS 20 w: it is left alone", x, x.harvest(3, 1, 999, 19980), 0, 1);
        dueFraction("LOSS 20 w less 1", x, x.harvest(3, 1, 999, 19979), 9, 20);
        dueFraction("the most LOSS", x, x.harvest(3, 10, 999, 99999), 0, 1);
        // GONE on the first day there is no second: 9 + 11 / 20 * 9
        dueFraction("and then no more", x, x.harvest(3, 2, 1, 0), 279, 20);
        due("DRIVE: of like ones the least", x.drive(3, 1, 999, 19980), 0);
        due("DRIVE: just better", x.drive(3, 1, 999, 19979), 9);
        due("DRIVE: nothing for it, no LOSS", x.drive(1, 10, 0, 0), 0);
        due("DRIVE: nothing for it, LOSS", x.drive(1, 10, 0, 99999), 0);
        due("DRIVE: no LOSS", x.drive(3, 10, 1, 0), 9);
        due("DRIVE on the last day ahead of 3 DEEP", x.drive(2, 1, 1, 99999), 9);
        due("DRIVE of no days", x.drive(1, 0, 1, 1), BAD);
        due("HARVEST of 11 days", x.harvest(1, 11, 1, 1), BAD);
        due("DRIVE of 11 days", x.drive(1, 11, 1, 1), BAD);
    }

    /** DRIVE leaves THE FRACTION as it was. */
    private static void driveLeavesTheFraction() {
        BlueSmoke x = new BlueSmoke();
        x.gone(3, 7, 1);
        x.drive(1, 10, 999, 99999);
        dueFraction("behind DRIVE", x, 1, 7, 20);
        x.takes(999);
        x.guess(2730, 0);
        x.likeliest();
        x.hidden();
        x.next(0);
        dueFraction("behind what else was asked", x, 1, 7, 20);
    }

    // ---- "THE SHED: PARTS 0 .. 5, as they come, have COST (1 .. 99), HOURS (1 .. 99), are needed a of
    // 10 (0 .. 10)."

    private static void partsAsTheyCome() {
        int[][] parts = {{1, 1, 0}, {99, 99, 10}, {1, 99, 10}, {99, 1, 0}, {1, 1, 10}, {99, 99, 0}};
        BlueSmoke x = new BlueSmoke();
        long h = mix(577, 0, 0, 6, 0, 0, 5, 8, 9, 1, 1, 1, 1, 1, 1, 1, -1, -1, -1, -1);
        for (int number = 0; number < 6; number++) {
            due("PARTS ahead of it", x.count(2), number);
            due("its number", x.part(parts[number][0], parts[number][1], parts[number][2]), number);
            h = mix(h, parts[number][0], parts[number][1], parts[number][2]);
        }
        due("digest of PARTS", x.digest(), mix(h, 0, 0, 1, 1));
        for (int again = 0; again < 3; again++) {
            due("no seventh", x.part(1, 1, 1), FULL);
            due("six", x.count(2), 6);
        }
        due("BAD ahead of FULL", x.part(1, 1, 11), BAD);
        x.clear();
        x.forget();
        due("they stay", x.count(2), 6);
    }

    // ---- "TAKES for so much coin (0 .. 999): the set that costs no more with the most of HOURS times a
    // together, of like ones that which costs least, then the least bits."

    private static void takesByCoin() {
        BlueSmoke none = new BlueSmoke();
        due("no PARTS", none.takes(0), 0);
        due("no PARTS, the most coin", none.takes(999), 0);
        BlueSmoke x = new BlueSmoke();
        for (int number = 0; number < 6; number++) {
            x.part(99, 99, 10);
        }
        for (int many = 0; many <= 6; many++) {
            due("coin for " + many, x.takes(99 * many), (1 << many) - 1);
            due("and more", x.takes(99 * many + 98), (1 << many) - 1);
            if (many > 0) {
                due("1 less", x.takes(99 * many - 1), (1 << many - 1) - 1);
            }
        }
        due("the most coin", x.takes(999), 63);
        due("more than that", x.takes(1000), BAD);
        due("less than none", x.takes(-1), BAD);
        BlueSmoke y = new BlueSmoke();
        y.part(1, 1, 1);
        due("no coin", y.takes(0), 0);
        due("just coin", y.takes(1), 1);
        BlueSmoke z = new BlueSmoke();
        z.part(99, 99, 0);
        z.part(1, 1, 0);
        due("never needed: of like ones what costs least", z.takes(999), 0);
    }

    private static void takesOfLikeOnes() {
        // worth 20 each, whatever HOURS and a are
        BlueSmoke x = new BlueSmoke();
        x.part(7, 2, 10);
        x.part(6, 10, 2);
        x.part(6, 4, 5);
        x.part(6, 20, 1);
        due("that which costs least, then the least bits", x.takes(11), 2);
        due("two of those", x.takes(12), 6);
        due("not the dearer one", x.takes(13), 6);
        due("three", x.takes(18), 14);
        due("all but the dearest", x.takes(24), 14);
        due("all", x.takes(25), 15);
        // one of 30 for 5, or 10 and 20 for 2 and 3: like worth, like cost
        BlueSmoke y = new BlueSmoke();
        y.part(5, 3, 10);
        y.part(2, 1, 10);
        y.part(3, 2, 10);
        due("the least bits are the one", y.takes(5), 1);
        BlueSmoke z = new BlueSmoke();
        z.part(2, 1, 10);
        z.part(3, 2, 10);
        z.part(5, 3, 10);
        due("the least bits are the two", z.takes(5), 3);
        BlueSmoke w = new BlueSmoke();
        w.part(2, 1, 10);
        w.part(2, 2, 10);
        w.part(5, 3, 10);
        due("two cost less than one", w.takes(5), 3);
        BlueSmoke v = new BlueSmoke();
        v.part(2, 1, 10);
        v.part(4, 2, 10);
        v.part(5, 3, 10);
        due("one costs less than two", v.takes(6), 4);
        BlueSmoke u = new BlueSmoke();
        u.part(1, 1, 0);
        u.part(1, 1, 1);
        due("what is never needed costs more", u.takes(2), 2);
        BlueSmoke t = new BlueSmoke();
        t.part(1, 99, 1);
        t.part(1, 10, 10);
        due("HOURS times a, not HOURS", t.takes(1), 2);
    }

    // ---- "IMAGES 0, 1 keep all but them, THE FRACTION and STATUS; it goes on from one."

    private static BlueSmoke begun() {
        BlueSmoke x = new BlueSmoke();
        tell(x, "stand 2;idle 1;pull 7 3;coast 2;");
        int[] values = {11, 12, 7, 13};
        for (int what = 0; what < 4; what++) {
            x.put(what, values[what]);
        }
        for (int kind = 0; kind < 7; kind++) {
            x.prior(kind, kind + 2);
        }
        for (int cylinder = 0; cylinder < 4; cylinder++) {
            x.fault(cylinder, cylinder, 3);
        }
        for (int number = 0; number < 8; number++) {
            x.look(number, number % 4, number % 5 - 1, number % 3);
        }
        for (int number = 0; number < 6; number++) {
            x.part(number + 1, number + 20, number);
        }
        return x;
    }

    private static long asked(BlueSmoke x) {
        long h = mix(577, x.minutes(), x.faulty(), x.goes(0), x.goes(1), x.hidden(), x.takes(12), x.likeliest());
        for (int minute = 0; minute < 9; minute++) {
            h = mix(h, x.warm(minute), x.smoke(minute, 0, NONE), x.smoke(minute, 1, 0), x.gives(1, 2, minute, 0));
        }
        return mix(h, x.next(3), x.count(0), x.count(1), x.count(2), x.count(3));
    }

    /** Each thing is changed in place, not only added to; and all comes back. */
    private static void allOfItComesBack() {
        BlueSmoke x = begun();
        long digest = x.digest();
        long answers = asked(x);
        due("kept", x.image(1), 1);
        x.clear();
        tell(x, "coast 9;pull 1 1;idle 2;stand 3;");
        for (int what = 0; what < 4; what++) {
            x.put(what, 3);
        }
        for (int kind = 0; kind < 7; kind++) {
            x.prior(kind, 1);
        }
        for (int cylinder = 0; cylinder < 4; cylinder++) {
            x.fault(cylinder, 6, 1);
        }
        x.forget();
        for (int number = 0; number < 8; number++) {
            x.look(119 - number, 3 - number % 4, 3 - number % 5, 2 - number % 3);
        }
        due("another digest", x.digest() == digest ? 1 : 0, 0);
        due("another one is kept", x.image(0), 1);
        long other = x.digest();
        due("on from the first", x.from(1), 1);
        due("its digest", x.digest(), digest);
        due("what it answers", asked(x), answers);
        due("on from the other", x.from(0), 1);
        due("its digest", x.digest(), other);
        due("on from the first again", x.from(1), 1);
        due("what it answers", asked(x), answers);
    }

    private static void partsComeBack() {
        BlueSmoke x = new BlueSmoke();
        due("an empty one", x.image(0), 1);
        x.part(1, 2, 3);
        due("one PART", x.image(1), 1);
        x.from(0);
        due("no PARTS", x.count(2), 0);
        due("another, the first again", x.part(4, 5, 6), 0);
        x.part(7, 8, 9);
        long two = x.digest();
        x.image(0);
        x.from(1);
        due("one PART", x.count(2), 1);
        due("it costs 1", x.takes(1), 1);
        x.from(0);
        due("two", x.digest(), two);
        due("neither costs 1", x.takes(3), 0);
        due("the first costs 4", x.takes(4), 1);
    }

    private static void imagesKeepNoFractionNoStatus() {
        BlueSmoke x = new BlueSmoke();
        x.gone(3, 1, 1);
        x.image(0);
        x.gone(3, 9, 1);
        x.put(9, 9);
        x.from(1);
        due("on from it", x.from(0), 1);
        dueFraction("THE FRACTION stays", x, 1, 9, 20);
        due("BAD stays", x.status(0), 1);
        due("NO stays", x.status(1), 1);
        due("FULL stays", x.status(2), 0);
    }

    /** An IMAGE keeps no IMAGES: what the other one is stays so. */
    private static void imagesKeepNoImages() {
        BlueSmoke x = new BlueSmoke();
        due("none is kept: 0", x.from(0), NO);
        due("none is kept: 1", x.from(1), NO);
        x.image(0);
        x.put(0, 5);
        due("the other is not kept", x.from(1), NO);
        due("so nothing has changed", x.put(0, 6), 5);
        x.image(1);
        due("on from 0", x.from(0), 1);
        due("as it was", x.put(0, 7), 0);
        due("1 is kept still", x.from(1), 1);
        due("as it was", x.put(0, 8), 6);
        x.image(0);
        due("0 is kept over", x.from(0), 1);
        due("as it was then", x.put(0, 9), 8);
        x.from(0);
        due("an IMAGE does not change with it", x.put(0, 10), 8);
        x.from(1);
        due("nor does the other", x.put(0, 11), 6);
        BlueSmoke y = new BlueSmoke();
        due("1 may be first", y.image(1), 1);
        due("then 0 is not kept", y.from(0), NO);
        due("IMAGES of one object are not another's", y.from(1), 1);
    }

    private static void aFaultyDayIsKeptToo() {
        BlueSmoke x = new BlueSmoke();
        tell(x, "idle 5;?");
        x.image(0);
        x.clear();
        due("no day", x.minutes(), 0);
        x.from(0);
        due("FAULTY", x.faulty(), 7);
        due("NO", x.minutes(), NO);
        x.clear();
        tell(x, "idle 5;");
        x.image(1);
        x.from(0);
        due("FAULTY", x.faulty(), 7);
        x.from(1);
        due("not FAULTY", x.minutes(), 5);
    }

    // ---- "THE FRACTION is 0 by 1 at first; lowest terms, below above 0. Its limbs are digits to the base
    // 1073741824, the lowest first (0 has none)."

    private static void fractionAndItsLimbs() {
        BlueSmoke x = new BlueSmoke();
        dueFraction("at first", x, 1, 0, 1);
        due("sign of 0", x.sign(0), 0);
        due("0 has no limbs", x.limb(0, 0), NONE);
        for (int i = 1; i < 5; i++) {
            due("1 has one", x.limb(1, i), NONE);
        }
        due("none far behind", x.limb(1, Integer.MAX_VALUE), NONE);
        due("NONE is not refused", x.status(0), 0);
        x.gone(3, 9, 20);
        due("three limbs", x.sign(2), 3);
        due("the last one", x.limb(1, 2) > 0 ? 1 : 0, 1);
        due("no fourth", x.limb(1, 3), NONE);
        x.odds(0, 0);
        dueFraction("no limbs are left of the greater one", x, 1, 18, 269);
        x.gone(3, 9, 20);
        x.harvest(1, 0, 0, 0);
        dueFraction("nor of a 0", x, 1, 0, 1);
        // 20 by the power of 7 is the first above 1073741824, by 14 the first with three limbs
        x.gone(3, 1, 6);
        due("64000000", x.sign(2), 1);
        x.gone(3, 1, 7);
        due("1280000000", x.sign(2), 2);
        x.gone(3, 1, 13);
        due("20 by the power of 13", x.sign(2), 2);
        x.gone(3, 1, 14);
        due("20 by the power of 14", x.sign(2), 3);
        due("BAD i, which is told", x.limb(0, -1), BAD);
        due("BAD which", x.limb(2, 0), BAD);
        due("BAD what", x.sign(3), BAD);
        due("BAD what", x.sign(-1), BAD);
    }

    // ---- "STATUS: how many calls were refused as BAD, NO, FULL (each answer told so below is such a one)."

    private static void statusCountsEach() {
        BlueSmoke x = new BlueSmoke();
        for (int many = 0; many < 100; many++) {
            due("BAD so far", x.status(0), many);
            x.fault(many % 4, 7, 1);
        }
        for (int many = 0; many < 60; many++) {
            due("NO so far", x.status(1), many);
            x.from(many % 2);
        }
        tell(x, " ".repeat(120));
        for (int many = 0; many < 60; many++) {
            due("FULL so far", x.status(2), many);
            x.type(many, 1 + many % 8);
        }
        due("another what", x.status(3), -1);
        due("another what", x.status(-1), -1);
        due("these were BAD", x.status(0), 102);
        due("-10 of GUESS is BAD", x.guess(2731, 0), -10);
        due("it was", x.status(0), 103);
        due("NO as it was", x.status(1), 60);
        due("FULL as it was", x.status(2), 60);
    }

    /** What answers NONE, 0 or -1 by right is not refused. */
    private static void whatIsNotRefused() {
        BlueSmoke x = new BlueSmoke();
        due("not FAULTY", x.faulty(), NONE);
        due("a GUESS of none", x.guess(0, 0), NONE);
        due("no such limb", x.limb(0, 0), NONE);
        x.clear();
        x.forget();
        x.takes(0);
        x.digest();
        tell(x, "?");
        due("FAULTY", x.faulty(), 0);
        due("BAD", x.status(0), 0);
        due("NO", x.status(1), 0);
        due("FULL", x.status(2), 0);
    }

    // ---- "How many: 0 bytes of THE DAY, 1 LOOKS, 2 PARTS, 3 FAULTS of THE MOTOR"

    private static void countsAtTheirMost() {
        BlueSmoke x = begun();
        tell(x, " ".repeat(120 - x.count(0)));
        int[] most = {120, 8, 6, 4};
        for (int what = 0; what < 4; what++) {
            due("at most " + what, x.count(what), most[what]);
            due("of a new one " + what, new BlueSmoke().count(what), 0);
        }
        due("what 4", x.count(4), BAD);
        due("what -1", x.count(-1), BAD);
        tell(x, "x");
        x.look(0, 0, 0, 0);
        x.part(1, 1, 1);
        for (int what = 0; what < 4; what++) {
            due("no more " + what, x.count(what), most[what]);
        }
    }

    // ---- "h = 577; then h = 31 h + v for each v", which wraps around

    private static void digestAtItsMost() {
        BlueSmoke x = new BlueSmoke();
        for (int i = 0; i < 15; i++) {
            x.type(-1L, 8);
        }
        long h = mix(577, 120, 8, 6, 4);
        for (int i = 0; i < 120; i++) {
            h = mix(h, 255);
        }
        int[] most = {100, 40, 9, 99};
        for (int what = 0; what < 4; what++) {
            x.put(what, most[what]);
            h = mix(h, most[what]);
        }
        for (int kind = 0; kind < 7; kind++) {
            x.prior(kind, 9);
            h = mix(h, 9);
        }
        for (int cylinder = 0; cylinder < 4; cylinder++) {
            x.fault(cylinder, 6, 3);
            h = mix(h, 20);
        }
        for (int number = 0; number < 8; number++) {
            x.look(119, 3, 3, 2);
            h = mix(h, 119, 3, 3, 2);
        }
        for (int number = 0; number < 6; number++) {
            x.part(99, 99, 10);
            h = mix(h, 99, 99, 10);
        }
        due("of no FRACTION", x.digest(), mix(h, 0, 0, 1, 1));
        x.gone(3, 2, 20);
        // 87842334540943071199 by 10 to the power of 20
        h = mix(h, 1, 3, 3, 972036063, 205170540, 76, 588251136, 790460597, 86);
        due("of six limbs", x.digest(), h);
        x.image(0);
        x.put(4, 4);
        due("again, with an IMAGE and a refused call", x.digest(), h);
    }

    // ---- "An object is used for at most 512 calls after it has been made"

    private static void theLastOf512Calls() {
        BlueSmoke x = new BlueSmoke();
        for (int call = 1; call <= 505; call++) {
            due("call " + call, x.status(-1), -1);
        }
        tell(x, "pull 9 60;");
        due("call 508", x.fault(0, 0, 3), 1);
        due("call 509", x.smoke(59, 0, NONE), 27);
        due("call 510", x.likeliest(), 1);
        due("call 511", x.gone(3, 1, 20), 1);
        due("call 512", x.status(0), 505);
    }

    public static void main(String[] args) {
        goneByAllThereIs();
        goneByHand();
        harvestAtItsEdges();
        harvestByHand();
        driveLeavesTheFraction();
        partsAsTheyCome();
        takesByCoin();
        takesOfLikeOnes();
        allOfItComesBack();
        partsComeBack();
        imagesKeepNoFractionNoStatus();
        imagesKeepNoImages();
        aFaultyDayIsKeptToo();
        fractionAndItsLimbs();
        statusCountsEach();
        whatIsNotRefused();
        countsAtTheirMost();
        digestAtItsMost();
        theLastOf512Calls();
        System.out.println(wrong == 0 ? "all edges of sheds hold" : wrong + " answers are not as due");
        if (wrong != 0) {
            System.exit(1);
        }
    }
}
