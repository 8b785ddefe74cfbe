import java.math.BigInteger;

// The edges that the document names of LOOKS, GUESSES, NEXT, LEAKS and HIDDEN (terms 2, promises 13
// to 21), a sentence of it at a time; what refused calls leave as it was is in Refused.
public final class EdgesOfGuesses {
    private static final int NONE = -1, BAD = -2, NO = -3, FULL = -4;
    private static final int BLUE = 0, SWEET = 1, SHARP = 2, BLACK = 3;
    private static final BigInteger BASE = BigInteger.valueOf(1073741824);
    private static int wrong = 0;

    private static void due(String what, long got, long want) {
        if (got != want) {
            wrong++;
            System.out.println(what + " answered " + got + ", due is " + want);
        }
    }

    private static BlueSmoke day(String text) {
        BlueSmoke x = new BlueSmoke();
        tell(x, text);
        return x;
    }

    /** Eight bytes a call: an object is used for at most 512 calls. */
    private static void tell(BlueSmoke x, String text) {
        for (int at = 0; at < text.length(); at += 8) {
            int n = Math.min(8, text.length() - at);
            long v = 0;
            for (int i = 0; i < n; i++) {
                v = v << 8 | text.charAt(at + i);
            }
            x.type(v, n);
        }
    }

    /** The day ahead of it is asked for, so that all of it was read. */
    private static void retell(BlueSmoke x, String text) {
        x.hidden();
        x.clear();
        tell(x, text);
    }

    private static void dueShare(String what, BlueSmoke x, int answer, long part, long whole) {
        dueShare(what, x, answer, BigInteger.valueOf(part), BigInteger.valueOf(whole));
    }

    private static void dueShare(String what, BlueSmoke x, int answer, BigInteger part, BigInteger whole) {
        BigInteger common = part.gcd(whole);
        due(what, answer, 1);
        due(what + ": sign", x.sign(0), part.signum());
        dueLimbs(what + ": above", x, 0, part.divide(common));
        dueLimbs(what + ": below", x, 1, whole.divide(common));
    }

    private static void dueLimbs(String what, BlueSmoke x, int which, BigInteger value) {
        int many = 0;
        for (BigInteger rest = value; rest.signum() > 0; rest = rest.divide(BASE)) {
            due(what + " " + many, x.limb(which, many), rest.mod(BASE).longValue());
            many++;
        }
        due(what + ", how many", x.sign(which + 1), many);
        due(what + ", no more", x.limb(which, many), NONE);
    }

    private static BigInteger above(BlueSmoke x) {
        BigInteger sum = BigInteger.ZERO;
        for (int i = x.sign(1) - 1; i >= 0; i--) {
            sum = sum.multiply(BASE).add(BigInteger.valueOf(x.limb(0, i)));
        }
        return sum;
    }

    private static BigInteger below(BlueSmoke x) {
        BigInteger sum = BigInteger.ZERO;
        for (int i = x.sign(2) - 1; i >= 0; i--) {
            sum = sum.multiply(BASE).add(BigInteger.valueOf(x.limb(1, i)));
        }
        return sum;
    }

    /** Of all kinds one alone has a PRIOR. */
    private static BlueSmoke alone(BlueSmoke x, int kind, int prior) {
        for (int other = 0; other < 7; other++) {
            x.prior(other, other == kind ? prior : 0);
        }
        return x;
    }

    // ---- RINGED alone with PRIOR 1, LOAD 1: the weight of all GUESSES that give 1, 2 .. 6 BLUE.
    // Ones: 4 * 9 * (3 2 1). Twos, six pairs: 2: 9; 3: 6 + 6; 4: 3 + 4 + 3; 5: 2 + 2; 6: 1.
    private static final long[] BY_BLUE = {0, 108, 72 + 54, 36 + 72, 60, 24, 6};

    private static int level(int amount, int thin) {
        return amount == 0 ? 0 : amount <= thin ? 1 : 2;
    }

    /** LEAKS of 1 is the share of no FAULT there: whoever has a RINGED one burns something. */
    private static void dueSound(String what, BlueSmoke x, int sound, int load, int thin, int level, int right) {
        long all = 0;
        long none = 0;
        for (int blue = 0; blue <= 6; blue++) {
            long weight = blue == 0 ? sound : BY_BLUE[blue];
            weight *= level(blue * load, thin) == level ? 2 * right : 10 - right;
            all += weight;
            none = blue == 0 ? weight : none;
        }
        dueShare(what, x, x.leaks(1), none, all);
    }

    // ---- "LOOKS 0 .. 7, as they come: in a MINUTE (0 .. 119), of a COLOR, with a CYLINDER CUT or none,
    // a LEVEL was seen."

    private static void looksAsTheyCome() {
        for (int minute : new int[] {0, 1, 118, 119}) {
            for (int color = 0; color < 4; color++) {
                BlueSmoke x = new BlueSmoke();
                int number = 0;
                for (int cut = -1; cut < 4; cut++) {
                    due("its number", x.look(minute, color, cut, (cut + 1) % 3), number);
                    number++;
                    due("LOOKS", x.count(1), number);
                }
                due("digest of its LOOKS", x.digest(), digestOfFive(minute, color));
            }
        }
        BlueSmoke x = new BlueSmoke();
        for (int number = 0; number < 8; number++) {
            due("like ones, too", x.look(0, 0, 0, 0), number);
        }
        for (int again = 0; again < 3; again++) {
            due("no ninth", x.look(1, 1, 1, 1), FULL);
            due("eight", x.count(1), 8);
        }
        due("BAD ahead of FULL", x.look(120, 1, 1, 1), BAD);
        due("forgotten", x.forget(), 8);
        due("none", x.forget(), 0);
        due("from the first on", x.look(1, 1, 1, 1), 0);
        due("forgotten", x.forget(), 1);
    }

    private static long digestOfFive(int minute, int color) {
        long h = 577;
        for (int v : new int[] {0, 5, 0, 0, 0, 5, 8, 9, 1, 1, 1, 1, 1, 1, 1, -1, -1, -1, -1}) {
            h = 31 * h + v;
        }
        for (int cut = -1; cut < 4; cut++) {
            for (int v : new int[] {minute, color, cut, (cut + 1) % 3}) {
                h = 31 * h + v;
            }
        }
        for (int v : new int[] {0, 0, 1, 1}) {
            h = 31 * h + v;
        }
        return h;
    }

    // ---- "(One behind THE DAY's last MINUTE is not looked at.)"

    private static void behindTheLastMinuteIsNotLookedAt() {
        String[] texts = {"pull 1 1;", "pull 1 2;", "pull 1 60;", "pull 1 60;pull 1 59;", "pull 1 60;pull 1 60;"};
        int[] lengths = {1, 2, 60, 119, 120};
        for (int i = 0; i < texts.length; i++) {
            BlueSmoke x = alone(day(texts[i]), 0, 1);
            due("MINUTES", x.minutes(), lengths[i]);
            x.look(lengths[i] - 1, BLUE, NONE, 0);
            dueSound("the last MINUTE", x, 9, 1, 5, 0, 8);
            x.forget();
            if (lengths[i] < 120) {
                x.look(lengths[i], BLUE, NONE, 0);
                x.look(119, BLUE, NONE, 2);
                dueShare("behind it", x, x.leaks(1), 9, 441);
                x.look(0, BLUE, NONE, 2);
                dueSound("one of three", x, 9, 1, 5, 2, 8);
            }
        }
        BlueSmoke x = alone(new BlueSmoke(), 0, 1);
        x.look(0, BLUE, NONE, 2);
        dueShare("no MINUTES, none is looked at", x, x.odds(0, 7), 31, 49);
        tell(x, "pull 1 1;");
        dueSound("there is one now", x, 9, 1, 5, 2, 8);
        x.clear();
        dueShare("there is none again", x, x.odds(0, 7), 31, 49);
        retell(x, "pull 1 5;");
        x.look(4, BLUE, NONE, 0);
        retell(x, "pull 1 4;");
        dueSound("the day is shorter now", x, 9, 1, 5, 2, 8);
        tell(x, "pull 1 1;");
        // both: nothing was seen, and much: 16 2 and, of 6 BLUE, 2 16; of all else 2 2
        dueShare("and longer", x, x.leaks(1), 9 * 2 * 16, 9 * 2 * 16 + 426 * 2 * 2 + 6 * 16 * 2);
    }

    // ---- "LEVELS: 0: 0; 1: THIN (1 .. 40; 5 at first) or less; 2: more", "times 2 RIGHT, if by the
    // GUESS there is that LEVEL, else times (10 less RIGHT)", "RIGHT (1 .. 9; 8 at first) of 10"

    private static void levelsByThinAndRight() {
        for (int load : new int[] {1, 2, 5, 9}) {
            for (int level = 0; level < 3; level++) {
                BlueSmoke x = alone(day("pull " + load + " 1;"), 0, 1);
                x.look(0, BLUE, NONE, level);
                String what = "LOAD " + load + " LEVEL " + level;
                dueSound(what + " as at first", x, 9, load, 5, level, 8);
                for (int thin : new int[] {1, 2, 4, 5, 6, 9, 17, 18, 19, 39, 40}) {
                    x.put(1, thin);
                    dueSound(what + " THIN " + thin, x, 9, load, thin, level, 8);
                }
                x.put(1, load);
                for (int right = 1; right <= 9; right++) {
                    x.put(2, right);
                    dueSound(what + " RIGHT " + right, x, 9, load, load, level, right);
                }
            }
        }
    }

    /** Of like LOOKS each counts, up to the eighth. */
    private static void eightLooks() {
        for (int right : new int[] {1, 5, 9}) {
            BlueSmoke x = alone(day("pull 1 1;"), 0, 1);
            x.put(2, right);
            x.put(3, 99);
            BigInteger agrees = BigInteger.ONE;
            BigInteger else0 = BigInteger.ONE;
            for (int number = 0; number < 8; number++) {
                x.look(0, BLUE, NONE, 0);
                agrees = agrees.multiply(BigInteger.valueOf(2 * right));
                else0 = else0.multiply(BigInteger.valueOf(10 - right));
                BigInteger none = agrees.multiply(BigInteger.valueOf(99));
                dueShare("LOOKS " + (number + 1) + " RIGHT " + right, x, x.leaks(1), none,
                        none.add(else0.multiply(BigInteger.valueOf(432))));
            }
            due("no ninth", x.look(0, BLUE, NONE, 0), FULL);
        }
        BlueSmoke x = day("idle 1;");
        for (int kind = 0; kind < 7; kind++) {
            x.prior(kind, 9);
        }
        x.put(2, 9);
        x.put(3, 99);
        for (int number = 0; number < 8; number++) {
            x.look(0, BLACK, NONE, 0);
        }
        // the greatest weights of all: 7 * 54 = 378 a CYLINDER; ones 9 * 4 * 378, twos 6 * 378 * 378
        dueShare("all of them agree", x, x.two(), 857304, 99 + 13608 + 857304);
        dueShare("one KIND", x, x.odds(2, 6), 9 * 54 + 3 * 54 * 378, 871011);
        dueShare("no FAULT", x, x.odds(2, 7), 99 + 3 * 9 * 378 + 3 * 378 * 378, 871011);
    }

    /** What is CUT does not smoke, by GUESSES with a FAULT there. */
    private static void looksWithACylinderCut() {
        for (int cut = 0; cut < 4; cut++) {
            BlueSmoke x = alone(day("pull 1 1;"), 0, 1);
            x.look(0, BLUE, cut, 0);
            // nothing by 9, and by ones in the CYLINDER that is cut: 54
            long all = (9 + 54) * 16 + (3 * 54 + 216) * 2;
            dueShare("no FAULT at all", x, x.leaks(1), 9 * 16, all);
            for (int cylinder = 0; cylinder < 4; cylinder++) {
                long has = cylinder == cut ? 54 * 16 + 108 * 2 : 54 * 2 + 108 * 2;
                dueShare("RINGED in " + cylinder + ", cut " + cut, x, x.odds(cylinder, 0), has, all);
            }
        }
    }

    // ---- "0 no FAULT: SOUND (0 .. 99; 9 at first); one FAULT in one CYLINDER: 9 times its weight; two
    // FAULTS in two CYLINDERS: both weights multiplied", "PRIOR of its KIND (0 .. 9; 1 at first)"

    private static void weightsBySoundAndPrior() {
        for (int kind = 0; kind < 7; kind++) {
            BlueSmoke x = new BlueSmoke();
            for (int prior : new int[] {0, 1, 5, 9}) {
                alone(x, kind, prior);
                long ones = 216L * prior;
                long twos = 216L * prior * prior;
                for (int sound : new int[] {0, 1, 50, 99}) {
                    x.put(3, sound);
                    String what = "kind " + kind + " PRIOR " + prior + " SOUND " + sound;
                    long all = sound + ones + twos;
                    if (all == 0) {
                        due(what, x.two(), NO);
                    } else {
                        dueShare(what + " TWO", x, x.two(), twos, all);
                        dueShare(what + " ODDS", x, x.odds(kind % 4, kind), ones / 4 + twos / 2, all);
                        dueShare(what + " none", x, x.odds(kind % 4, 7), sound + ones / 4 * 3 + twos / 2, all);
                    }
                }
            }
        }
        BlueSmoke x = new BlueSmoke();
        dueShare("as at first", x, x.two(), 6 * 42 * 42, 9 + 9 * 4 * 42 + 6 * 42 * 42);
        // two KINDS of PRIOR 2 and 3: 12 and 18 a CYLINDER, 30 together
        alone(x, 2, 2);
        x.prior(5, 3);
        long all = 9 + 36 * 30 + 6 * 900;
        dueShare("two KINDS, the one", x, x.odds(3, 2), 9 * 12 + 3 * 12 * 30, all);
        dueShare("two KINDS, the other", x, x.odds(3, 5), 9 * 18 + 3 * 18 * 30, all);
        dueShare("two KINDS, a third", x, x.odds(3, 0), 0, 1);
    }

    // ---- "(NO to all that asks of them: ALL is 0, or THE DAY is FAULTY)"

    private static void noToAll(String what, BlueSmoke x) {
        due(what + " ODDS", x.odds(0, 0), NO);
        due(what + " ODDS of no FAULT", x.odds(3, 7), NO);
        due(what + " TWO", x.two(), NO);
        due(what + " LIKELIEST", x.likeliest(), NO);
        due(what + " NEXT", x.next(0), NO);
        due(what + " NEXT, NO ahead of BAD", x.next(-1), NO);
        due(what + " LEAKS", x.leaks(0), NO);
        due(what + " BAD ahead of NO: ODDS", x.odds(4, 0), BAD);
        due(what + " BAD ahead of NO: LEAKS", x.leaks(100000), BAD);
        due(what + " a GUESS asks of none", x.guess(2730, 3), 20);
    }

    private static void yesToAll(String what, BlueSmoke x) {
        due(what + " ODDS", x.odds(0, 0), 1);
        due(what + " TWO", x.two(), 1);
        due(what + " LIKELIEST", x.likeliest() >= 0 ? 1 : 0, 1);
        due(what + " NEXT", x.next(0) >= 0 ? 1 : 0, 1);
        due(what + " LEAKS", x.leaks(0), 1);
    }

    private static void allIsZero() {
        BlueSmoke x = alone(day("idle 1;"), 0, 0);
        x.put(3, 0);
        noToAll("ALL is 0", x);
        due("all else is told: HIDDEN", x.hidden(), 127 - 8);
        x.put(3, 1);
        yesToAll("SOUND 1", x);
        dueShare("surely none", x, x.odds(0, 7), 1, 1);
        x.put(3, 0);
        for (int kind = 0; kind < 7; kind++) {
            alone(x, kind, 1);
            yesToAll("kind " + kind, x);
            dueShare("never sound", x, x.leaks(0), 0, 1);
        }
        alone(x, 0, 0);
        noToAll("ALL is 0 again", x);
        BlueSmoke y = day("idle 1");
        noToAll("FAULTY", y);
        due("FAULTY: HIDDEN", y.hidden(), NO);
        tell(y, ";");
        yesToAll("mended", y);
        tell(y, "?");
        noToAll("FAULTY again", y);
    }

    // ---- "ODDS that a CYLINDER has a KIND (7: no FAULT): the share of GUESSES with it."

    private static void oddsOfACylinderAreOneTogether() {
        BlueSmoke x = day("stand 3;idle 2;pull 4 3;coast 1;pull 8 2;");
        x.prior(0, 0);
        x.prior(5, 7);
        x.look(5, SWEET, 1, 1);
        x.look(10, BLACK, NONE, 2);
        x.look(6, BLUE, 3, 0);
        for (int cylinder = 0; cylinder < 4; cylinder++) {
            BigInteger over = BigInteger.ZERO;
            BigInteger under = BigInteger.ONE;
            for (int kind = 0; kind <= 7; kind++) {
                due("ODDS " + cylinder + " " + kind, x.odds(cylinder, kind), 1);
                BigInteger a = above(x);
                BigInteger b = below(x);
                due("lowest terms", a.gcd(b).equals(BigInteger.ONE) ? 1 : 0, 1);
                due("PRIOR 0 has none", kind == 0 ? x.sign(1) : 0, 0);
                over = over.multiply(b).add(a.multiply(under));
                under = under.multiply(b);
            }
            due("they are 1 together", over.equals(under) ? 1 : 0, 1);
        }
    }

    // ---- "LIKELIEST: the GUESS with the most, of like ones the first: by numbers"

    private static void likeliestOfLikeOnesTheFirst() {
        for (int kind = 0; kind < 7; kind++) {
            BlueSmoke x = alone(new BlueSmoke(), kind, 1);
            String what = "kind " + kind;
            due(what + ": one 27, two 9, none 9", x.likeliest(), 1 + 3 * kind);
            x.put(3, 26);
            due(what + ": one 27, none 26", x.likeliest(), 1 + 3 * kind);
            x.put(3, 27);
            due(what + ": of like ones none", x.likeliest(), 0);
            x.put(3, 99);
            alone(x, kind, 2);
            due(what + ": none 99, one 54, two 36", x.likeliest(), 0);
            alone(x, kind, 3);
            due(what + ": none 99, one 81, two 81", x.likeliest(), 0);
            x.put(3, 80);
            due(what + ": of one 81 and two 81 the one", x.likeliest(), 1 + 3 * kind);
            x.put(3, 81);
            due(what + ": of all three none", x.likeliest(), 0);
            alone(x, kind, 4);
            due(what + ": two 144, one 108", x.likeliest(), 85 + 22 * 3 * kind);
            x.put(3, 0);
            alone(x, kind, 9);
            due(what + ": two 729", x.likeliest(), 85 + 22 * 3 * kind);
        }
        BlueSmoke x = new BlueSmoke();
        for (int kind = 0; kind < 7; kind++) {
            x.prior(kind, 9);
        }
        due("of all kinds the first", x.likeliest(), 85);
        x.prior(0, 8);
        due("of six the first", x.likeliest(), 85 + 22 * 3);
    }

    private static void likeliestByCylinders() {
        for (int cylinder = 0; cylinder < 4; cylinder++) {
            BlueSmoke x = alone(day("pull 1 1;"), 0, 1);
            x.put(2, 9);
            for (int cut = 0; cut < 4; cut++) {
                x.look(0, BLUE, cut, cut == cylinder ? 0 : 1);
            }
            due("RINGED in " + cylinder + " alone", x.likeliest(), 1 + 21 * cylinder);
        }
        int pair = 0;
        for (int one = 0; one < 4; one++) {
            for (int other = one + 1; other < 4; other++) {
                BlueSmoke x = alone(day("pull 1 1;"), 0, 1);
                x.put(1, 1);
                x.put(2, 9);
                for (int cut = 0; cut < 4; cut++) {
                    x.look(0, BLUE, cut, cut == one || cut == other ? 1 : 2);
                }
                due("RINGED in " + one + " and " + other, x.likeliest(), 85 + 441 * pair);
                pair++;
            }
        }
        // WORN, LOAD 9: 4 9 13; but 26 of two 3 DEEP none is more than 25
        BlueSmoke x = alone(day("pull 9 1;"), 6, 1);
        x.put(1, 25);
        x.put(2, 9);
        for (int again = 0; again < 2; again++) {
            x.look(0, BLUE, 0, 2);
            x.look(0, BLUE, 1, 2);
        }
        due("the last GUESS of all", x.likeliest(), 2730);
        due("is told", x.guess(2730, 2), 20);
        due("is told", x.guess(2730, 3), 20);
    }

    // ---- "Of a GUESS (0 .. 2730)": "by numbers: 0; then of CYLINDER 0, 1, 2, 3 the FAULTS by 3 times
    // KIND and DEEP less 1; then of two CYLINDERS the FAULT of the lesser one, then of the other"

    private static BlueSmoke asked;
    private static int calls;

    private static void dueGuess(int number, int one, int ofOne, int other, int ofOther) {
        for (int cylinder = 0; cylinder < 4; cylinder++) {
            if (calls % 500 == 0) {
                asked = new BlueSmoke();
            }
            calls++;
            int want = cylinder == one ? ofOne : cylinder == other ? ofOther : NONE;
            due("GUESS " + number + " in " + cylinder, asked.guess(number, cylinder), want);
        }
    }

    private static void eachGuess() {
        int number = 0;
        dueGuess(number, NONE, NONE, NONE, NONE);
        for (int cylinder = 0; cylinder < 4; cylinder++) {
            for (int fault = 0; fault < 21; fault++) {
                number++;
                dueGuess(number, cylinder, fault, NONE, NONE);
            }
        }
        for (int one = 0; one < 4; one++) {
            for (int other = one + 1; other < 4; other++) {
                for (int ofOne = 0; ofOne < 21; ofOne++) {
                    for (int ofOther = 0; ofOther < 21; ofOther++) {
                        number++;
                        dueGuess(number, one, ofOne, other, ofOther);
                    }
                }
            }
        }
        due("the last of them", number, 2730);
        BlueSmoke x = new BlueSmoke();
        for (int cylinder = -1; cylinder <= 4; cylinder++) {
            due("there is none behind", x.guess(2731, cylinder), -10);
            due("there is none ahead", x.guess(-1, cylinder), -10);
        }
        due("these were BAD", x.status(0), 12);
    }

    // ---- NEXT: "that by which the LEVEL with the greatest share of GUESSES has the least, of like
    // ones the least COLOR, then CUT"

    private static void nextInAMinute() {
        BlueSmoke x = day("idle 1;pull 9 59;coast 60;");
        due("in the first", x.next(0) >= 0 ? 1 : 0, 1);
        due("in the last", x.next(119) >= 0 ? 1 : 0, 1);
        due("behind it", x.next(120), BAD);
        due("ahead of the first", x.next(-1), BAD);
        retell(x, "pull 9 1;");
        due("in the one there is", x.next(0) >= 0 ? 1 : 0, 1);
        due("behind the one there is", x.next(1), BAD);
        x.clear();
        due("there is none", x.next(0), BAD);
        due("BAD", x.status(0), 4);
        tell(x, "?");
        due("NO ahead of BAD", x.next(0), NO);
    }

    private static void nextOfLikeOnes() {
        BlueSmoke x = day("stand 1;");
        due("nothing is to be seen: of like ones the least of all", x.next(0), 0);
        alone(x, 4, 1);
        retell(x, "idle 1;pull 5 1;");
        due("OVER gives nothing", x.next(0), 0);
        // by 2 THIN, none cut: 9 of none, 234 of thin, 198 of more; cut: 63 of none, 252 of thin, 126 of more
        x.put(1, 2);
        due("OVER gives BLACK 1 2 3: 234 and 252", x.next(1), 34);
        // all of it is THIN: none cut 432; cut 378, whichever it is
        x.put(1, 40);
        due("of like CYLINDERS the least", x.next(1), 30);
        // CRACKED gives SWEET 5 10 15, LATE SHARP 3 7 10: by 5 THIN, and by twos, the same LEVELS
        BlueSmoke y = alone(day("idle 1;"), 2, 1);
        y.prior(3, 1);
        due("of like COLORS the least", y.next(0), 14);
        // SWEET: none cut 1305 of none at least; SHARP: 1512 of more, by a CYLINDER cut 1134 of more
        y.prior(3, 2);
        due("unlike ones", y.next(0), 20);
        // none cut: 36 16 none, 342 2 thin, 90 2 more; cut: (36 16 and 54 2) none, 333 2 thin, 45 2 more
        BlueSmoke z = alone(day("pull 1 1;"), 0, 1);
        z.put(1, 3);
        z.put(3, 36);
        z.look(0, BLUE, NONE, 0);
        due("684 of thin and 684 of none: of like ones the least CUT", z.next(0), 0);
        z.put(3, 37);
        due("700 and 684", z.next(0), 4);
        z.put(3, 35);
        due("668 and 684", z.next(0), 0);
    }

    /** RINGED and WORN with many PRIORS, LOADS and THIN: held against a plain count. */
    private static void nextByAPlainCount() {
        int ties = 0;
        for (int ringed = 0; ringed <= 4; ringed++) {
            for (int worn = 0; worn <= 4; worn++) {
                for (int load = 1; load <= 9; load += 2) {
                    BlueSmoke x = alone(day("pull " + load + " 1;"), 0, ringed);
                    x.prior(6, worn);
                    x.put(0, 50);
                    for (int thin = 1; thin <= 40; thin += thin < 12 ? 1 : 7) {
                        x.put(1, thin);
                        x.put(3, 99 - 2 * thin);
                        long[] most = new long[5];
                        for (int cut = 0; cut <= 4; cut++) {
                            most[cut] = mostOfALevel(ringed, worn, load, thin, 99 - 2 * thin, cut);
                        }
                        ties += most[0] == most[4] ? 1 : 0;
                        due("NEXT of " + ringed + " " + worn + " " + load + " " + thin, x.next(0), most[4] < most[0] ? 4 : 0);
                    }
                }
            }
        }
        due("there were like ones", ties > 20 ? 1 : 0, 1);
    }

    private static long mostOfALevel(int ringed, int worn, int load, int thin, int sound, int cut) {
        long[] weights = new long[6];
        int[] blue = new int[6];
        for (int deep = 1; deep <= 3; deep++) {
            weights[deep - 1] = ringed * (4 - deep);
            weights[deep + 2] = worn * (4 - deep);
            blue[deep - 1] = deep * load;
            blue[deep + 2] = deep * load / 2;
        }
        long[] levels = new long[3];
        levels[0] += sound;
        for (int one = 0; one < 4; one++) {
            for (int f = 0; f < 6; f++) {
                int ofOne = one == cut ? 0 : blue[f];
                levels[level(ofOne, thin)] += 9 * weights[f];
                for (int other = one + 1; other < 4; other++) {
                    for (int g = 0; g < 6; g++) {
                        int both = ofOne + (other == cut ? 0 : blue[g]);
                        levels[level(both, thin)] += weights[f] * weights[g];
                    }
                }
            }
        }
        return Math.max(levels[0], Math.max(levels[1], levels[2]));
    }

    // ---- "LEAKS: with so many tins (0 .. 99999 of oil) put in: the share of GUESSES by which less is
    // BURNT."

    private static void leaksByTins() {
        BlueSmoke x = alone(day("pull 1 1;"), 0, 1);
        long less = 0;
        for (int tins = 0; tins <= 8; tins++) {
            dueShare("tins " + tins, x, x.leaks(tins), less, 441);
            less += tins == 0 ? 9 : tins <= 6 ? BY_BLUE[tins] : 0;
        }
        dueShare("the most tins", x, x.leaks(99999), 1, 1);
        due("more than that", x.leaks(100000), BAD);
        due("less than none", x.leaks(-1), BAD);
        // 3 DEEP both, LOAD 9: 54 a MINUTE
        retell(x, "pull 9 60;pull 9 60;");
        dueShare("as much as two burn at most", x, x.leaks(54 * 120), 441 - 6, 441);
        dueShare("one more", x, x.leaks(54 * 120 + 1), 1, 1);
        dueShare("as little as one burns at least", x, x.leaks(9 * 120), 9, 441);
        dueShare("one more", x, x.leaks(9 * 120 + 1), 9 + 108, 441);
        retell(x, "pull 1 1;idle 1;");
        dueShare("a shorter day", x, x.leaks(6), 435, 441);
        retell(x, "");
        dueShare("no MINUTES: nothing is BURNT", x, x.leaks(1), 1, 1);
        dueShare("and no less", x, x.leaks(0), 0, 1);
        retell(x, "stand 60;stand 60;");
        dueShare("OFF: nothing is BURNT", x, x.leaks(1), 1, 1);
    }

    private static void leaksByStemmedAndWorn() {
        // STEMMED alone: holds 1 2 3, and 3 6 9 more; burns 4 8 12
        BlueSmoke x = alone(day("stand 1;coast 1;pull 1 2;"), 1, 1);
        dueShare("4 of STEMMED", x, x.leaks(4), 9, 441);
        dueShare("5 of STEMMED", x, x.leaks(5), 9 + 108, 441);
        dueShare("24 of STEMMED", x, x.leaks(24), 435, 441);
        dueShare("25 of STEMMED", x, x.leaks(25), 1, 1);
        // WORN alone, LOAD 1: 0 1 1; SWEET is no oil
        BlueSmoke y = alone(day("pull 1 1;"), 6, 1);
        // 1 DEEP burns nothing: 4 * 27; two: 6 * 9; one of two 1 DEEP: 6 * 2 * 9
        dueShare("1 of WORN", y, y.leaks(1), 9 + 108 + 54, 441);
        dueShare("2 of WORN", y, y.leaks(2), 441 - 6 * 9, 441);
        dueShare("3 of WORN", y, y.leaks(3), 1, 1);
        BlueSmoke z = alone(day("pull 9 9;"), 2, 1);
        dueShare("CRACKED burns none", z, z.leaks(1), 1, 1);
    }

    // ---- "HIDDEN: the KINDS (bits) that, 3 DEEP, give nothing of any COLOR in all of THE DAY, were
    // FIRST 100."

    private static void dueHidden(String text, int shown) {
        BlueSmoke x = day(text);
        for (int first : new int[] {0, 30, 100}) {
            x.put(0, first);
            due("HIDDEN in '" + text + "', FIRST " + first, x.hidden(), 127 - shown);
            due("WARM is as it was", x.warm(0), first);
        }
    }

    private static void hiddenByKinds() {
        int ringed = 1;
        int stemmed = 2;
        int cracked = 4;
        int late = 8;
        int over = 16;
        int starved = 32;
        int worn = 64;
        dueHidden("", 0);
        dueHidden("   ", 0);
        dueHidden("stand 60;stand 60;", 0);
        dueHidden("idle 1;", late);
        dueHidden("coast 1;", late);
        dueHidden("coast 60;stand 60;", late);
        dueHidden("pull 1 1;", ringed + worn);
        dueHidden("pull 2 60;", ringed + worn);
        dueHidden("pull 3 1;", ringed + worn + starved);
        dueHidden("pull 4 1;", ringed + worn + starved);
        dueHidden("pull 5 1;", ringed + worn + starved + over);
        dueHidden("pull 9 60;pull 9 60;", ringed + worn + starved + over);
        dueHidden("coast 1;pull 1 1;", ringed + stemmed + worn + late);
        dueHidden("coast 1;idle 1;", stemmed + late);
        dueHidden("stand 1;pull 1 1;", ringed + stemmed + worn);
        // CRACKED 3 (100 less WARM) by 20: 6 less is 18, 7 less is 21; LATE half of it: 13 less is 1, 14 is 2
        dueHidden("stand 6;pull 1 1;", ringed + stemmed + worn);
        dueHidden("stand 7;pull 1 1;", ringed + stemmed + worn + cracked);
        dueHidden("stand 13;pull 1 1;", ringed + stemmed + worn + cracked);
        dueHidden("stand 14;pull 1 1;", ringed + stemmed + worn + cracked + late);
        // WORN SWEET below 30
        dueHidden("stand 60;stand 10;idle 1;", stemmed + cracked + late);
        dueHidden("stand 60;stand 11;idle 1;", stemmed + cracked + late + worn);
        // the last MINUTE shows it, too
        dueHidden("idle 60;stand 59;pull 5 1;", ringed + stemmed + cracked + late + over + starved + worn);
        BlueSmoke x = day("pull 9 60;");
        retell(x, "stand 5;");
        due("what a longer day showed", x.hidden(), 127);
        x.clear();
        due("no MINUTES", x.hidden(), 127);
        tell(x, "stand");
        due("FAULTY", x.hidden(), NO);
        BlueSmoke y = alone(day("idle 1;"), 0, 0);
        y.put(3, 0);
        y.fault(0, 3, 3);
        due("it asks of no GUESSES", y.hidden(), 127 - 8);
    }

    // ---- whatever is changed, GUESSES are as those of one that never was otherwise

    private static void dueAlike(String what, BlueSmoke x, BlueSmoke fresh) {
        due(what + ": TWO", x.two(), fresh.two());
        due(what + ": above", above(x).equals(above(fresh)) ? 1 : 0, 1);
        due(what + ": below", below(x).equals(below(fresh)) ? 1 : 0, 1);
        due(what + ": ODDS", x.odds(1, 2), fresh.odds(1, 2));
        due(what + ": above", above(x).equals(above(fresh)) ? 1 : 0, 1);
        due(what + ": below", below(x).equals(below(fresh)) ? 1 : 0, 1);
        due(what + ": LEAKS", x.leaks(9), fresh.leaks(9));
        due(what + ": above", above(x).equals(above(fresh)) ? 1 : 0, 1);
        due(what + ": below", below(x).equals(below(fresh)) ? 1 : 0, 1);
        due(what + ": LIKELIEST", x.likeliest(), fresh.likeliest());
        due(what + ": NEXT", x.next(1), fresh.next(1));
    }

    private static final String BEGUN = "idle 2;pull 6 3;";

    private static BlueSmoke begun(String text) {
        BlueSmoke x = day(text);
        x.look(1, SWEET, NONE, 1);
        x.look(7, BLUE, 2, 2);
        return x;
    }

    private static void whateverIsChanged() {
        BlueSmoke x = begun(BEGUN);
        x.image(0);
        dueAlike("begun", x, begun(BEGUN));
        tell(x, "pull 2 4;");
        dueAlike("more typed", x, begun(BEGUN + "pull 2 4;"));
        retell(x, "pull 2 9;");
        dueAlike("told anew", x, begun("pull 2 9;"));
        int[] values = {60, 2, 3, 70};
        for (int what = 0; what < 4; what++) {
            BlueSmoke y = begun(BEGUN + "pull 2 4;");
            BlueSmoke fresh = begun(BEGUN + "pull 2 4;");
            y.likeliest();
            y.put(what, values[what]);
            fresh.put(what, values[what]);
            dueAlike("put " + what, y, fresh);
        }
        BlueSmoke y = begun(BEGUN);
        BlueSmoke fresh = begun(BEGUN);
        y.likeliest();
        y.prior(2, 7);
        fresh.prior(2, 7);
        dueAlike("PRIOR", y, fresh);
        y.look(4, BLUE, 0, 1);
        fresh.look(4, BLUE, 0, 1);
        dueAlike("one LOOK more", y, fresh);
        y.fault(0, 0, 3);
        dueAlike("a FAULT, which GUESSES do not know", y, fresh);
        y.hidden();
        y.gone(1, 1, 1);
        y.takes(5);
        dueAlike("what else was asked", y, fresh);
        y.forget();
        fresh.forget();
        dueAlike("forgotten", y, fresh);
        x.from(0);
        dueAlike("gone on from an IMAGE", x, begun(BEGUN));
    }

    public static void main(String[] args) {
        looksAsTheyCome();
        behindTheLastMinuteIsNotLookedAt();
        levelsByThinAndRight();
        eightLooks();
        looksWithACylinderCut();
        weightsBySoundAndPrior();
        allIsZero();
        oddsOfACylinderAreOneTogether();
        likeliestOfLikeOnesTheFirst();
        likeliestByCylinders();
        eachGuess();
        nextInAMinute();
        nextOfLikeOnes();
        nextByAPlainCount();
        leaksByTins();
        leaksByStemmedAndWorn();
        hiddenByKinds();
        whateverIsChanged();
        System.out.println(wrong == 0 ? "all edges of guesses hold" : wrong + " answers are not as due");
        if (wrong != 0) {
            System.exit(1);
        }
    }
}
