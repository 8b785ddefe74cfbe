import java.util.ArrayList;
import java.util.List;

// "Refused, changing nothing but STATUS, the first of: BAD; NO; FULL": each call, in objects of
// several states, with each number in turn just and far outside its bounds. Two objects are made
// alike; one is asked the refused call; behind it all that can be asked of both must be the same,
// but for the one STATUS that is 1 more.
public final class Refused {
    private static final int BAD = -2, NO = -3, FULL = -4;
    private static int wrong = 0;
    private static int refusals = 0;

    private interface Call {
        int on(BlueSmoke x);
    }

    private interface Made {
        BlueSmoke fresh();
    }

    private static void due(String what, long got, long want) {
        if (got != want) {
            wrong++;
            if (wrong <= 60) {
                System.out.println(what + " answered " + got + ", due is " + want);
            }
        }
    }

    /** Eight bytes a call: an object is used for at most 512 calls. */
    private static void tell(BlueSmoke x, String text) {
        for (int at = 0; at < text.length(); at += 8) {
            int n = Math.min(8, text.length() - at);
            long v = 0;
            for (int i = 0; i < n; i++) {
                v = v << 8 | text.charAt(at + i);
            }
            x.type(v, n);
        }
    }

    // ---- objects of several states

    private static BlueSmoke anew() {
        return new BlueSmoke();
    }

    private static BlueSmoke told() {
        BlueSmoke x = new BlueSmoke();
        tell(x, "idle 7;");
        x.part(1, 2, 3);
        x.image(0);
        x.clear();
        tell(x, "stand 5;idle 3;pull 5 6;coast 2;pull 9 4;");
        x.put(0, 17);
        x.put(1, 6);
        x.put(2, 7);
        x.put(3, 40);
        x.prior(0, 3);
        x.prior(6, 2);
        x.fault(1, 1, 2);
        x.fault(3, 3, 1);
        x.look(9, 0, -1, 1);
        x.look(6, 1, 2, 2);
        x.look(119, 3, 0, 0);
        x.part(9, 8, 7);
        x.gone(3, 1, 7);
        x.status(5);
        return x;
    }

    private static BlueSmoke filled() {
        BlueSmoke x = told();
        for (int number = 3; number < 8; number++) {
            x.look(number, number % 4, -1, number % 3);
        }
        for (int number = 2; number < 6; number++) {
            x.part(3 + number, 40 - number, 5);
        }
        tell(x, " ".repeat(120 - x.count(0)));
        for (int cylinder = 0; cylinder < 4; cylinder++) {
            x.fault(cylinder, cylinder + 2, 3);
        }
        x.image(1);
        return x;
    }

    private static BlueSmoke almostFilled() {
        BlueSmoke x = told();
        tell(x, " ".repeat(113 - x.count(0)));
        return x;
    }

    private static BlueSmoke faulty() {
        BlueSmoke x = told();
        tell(x, "idle");
        return x;
    }

    private static BlueSmoke weighingNothing() {
        BlueSmoke x = told();
        for (int kind = 0; kind < 7; kind++) {
            x.prior(kind, 0);
        }
        x.put(3, 0);
        return x;
    }

    private static BlueSmoke faultyAndFilled() {
        BlueSmoke x = filled();
        x.clear();
        for (int i = 0; i < 15; i++) {
            x.type(-1, 8);
        }
        return x;
    }

    // ---- all that can be asked

    private static void fraction(List<Long> all, BlueSmoke x, int answer) {
        all.add((long) answer);
        for (int what = 0; what < 3; what++) {
            all.add((long) x.sign(what));
        }
        for (int i = 0; i < 4; i++) {
            all.add((long) x.limb(0, i));
            all.add((long) x.limb(1, i));
        }
    }

    private static void days(List<Long> all, BlueSmoke x) {
        all.add((long) x.faulty());
        all.add((long) x.minutes());
        for (int minute = 0; minute <= 20; minute += 4) {
            all.add((long) x.warm(minute));
            for (int color = 0; color < 4; color++) {
                all.add((long) x.smoke(minute, color, -1));
                all.add((long) x.gives(color, 2, minute, color));
            }
        }
        all.add((long) x.goes(0));
        all.add((long) x.goes(1));
        all.add((long) x.hidden());
    }

    private static void guesses(List<Long> all, BlueSmoke x) {
        fraction(all, x, x.odds(1, 7));
        fraction(all, x, x.odds(2, 6));
        fraction(all, x, x.two());
        fraction(all, x, x.leaks(20));
        all.add((long) x.likeliest());
        all.add((long) x.next(9));
    }

    private static List<Long> portrait(BlueSmoke x) {
        List<Long> all = new ArrayList<>();
        all.add(x.digest());
        fraction(all, x, 1);
        days(all, x);
        guesses(all, x);
        all.add((long) x.takes(30));
        all.add((long) x.type(' ', 1));
        all.add((long) x.look(9, 0, 1, 1));
        all.add((long) x.part(1, 1, 1));
        all.add(x.digest());
        for (int i = 0; i < 2; i++) {
            all.add((long) x.from(i));
            days(all, x);
            guesses(all, x);
            all.add((long) x.takes(30));
            all.add(x.digest());
        }
        return all;
    }

    private static void refused(String state, Made made, String what, int answer, Call call) {
        refusals++;
        int which = answer == NO ? 1 : answer == FULL ? 2 : 0;
        String told = what + " of one " + state;
        BlueSmoke asked = made.fresh();
        BlueSmoke other = made.fresh();
        due(told, call.on(asked), answer);
        for (int i = 0; i < 3; i++) {
            due(told + ": STATUS " + i, asked.status(i), other.status(i) + (i == which ? 1 : 0));
        }
        List<Long> ofAsked = portrait(asked);
        List<Long> ofOther = portrait(other);
        for (int i = 0; i < ofAsked.size(); i++) {
            due(told + ": all else the same, " + i, ofAsked.get(i), ofOther.get(i));
        }
        for (int i = 0; i < 3; i++) {
            due(told + ": STATUS behind all, " + i, asked.status(i), other.status(i) + (i == which ? 1 : 0));
        }
    }

    /** Numbers just and far outside, some of them such that their lowest bits are inside. */
    private static int[] outside(int least, int most) {
        return new int[] {least - 1, most + 1, least - 256, most + 65536, 1 << 30, -(1 << 30),
            Integer.MIN_VALUE, Integer.MAX_VALUE, Integer.MIN_VALUE + least, Integer.MIN_VALUE + most};
    }

    // ---- BAD

    private static void badDays(String state, Made made, boolean dayIsFaulty) {
        for (int v : outside(1, 8)) {
            refused(state, made, "type n " + v, BAD, x -> x.type(32, v));
        }
        for (int v : outside(0, 3)) {
            refused(state, made, "put what " + v, BAD, x -> x.put(v, 5));
            refused(state, made, "fault cylinder " + v, BAD, x -> x.fault(v, 1, 1));
            refused(state, made, "fault none in cylinder " + v, BAD, x -> x.fault(v, -1, 0));
        }
        int[][] bounds = {{0, 100}, {1, 40}, {1, 9}, {0, 99}};
        for (int what = 0; what < 4; what++) {
            int one = what;
            for (int v : outside(bounds[what][0], bounds[what][1])) {
                refused(state, made, "put " + one + " v " + v, BAD, x -> x.put(one, v));
            }
        }
        for (int v : outside(0, 6)) {
            refused(state, made, "prior kind " + v, BAD, x -> x.prior(v, 2));
            refused(state, made, "fault kind " + v, BAD, x -> x.fault(0, v, 1));
        }
        for (int v : outside(0, 9)) {
            refused(state, made, "prior v " + v, BAD, x -> x.prior(1, v));
        }
        for (int v : outside(1, 3)) {
            refused(state, made, "fault deep " + v, BAD, x -> x.fault(1, 0, v));
            if (v != 0) {
                refused(state, made, "fault none deep " + v, BAD, x -> x.fault(1, -1, v));
            }
        }
        refused(state, made, "fault none deep 1", BAD, x -> x.fault(1, -1, 1));
        refused(state, made, "fault kind -2 deep 0", BAD, x -> x.fault(1, -2, 0));
        for (int v : outside(0, 1)) {
            refused(state, made, "goes " + v, BAD, x -> x.goes(v));
        }
        int ahead = dayIsFaulty ? NO : BAD;
        int minutes = dayIsFaulty ? 20 : made.fresh().minutes();
        for (int v : outside(0, minutes)) {
            refused(state, made, "warm " + v, ahead, x -> x.warm(v));
        }
        for (int v : outside(0, minutes - 1)) {
            refused(state, made, "gives minute " + v, ahead, x -> x.gives(0, 1, v, 0));
            refused(state, made, "smoke minute " + v, ahead, x -> x.smoke(v, 0, 0));
        }
        for (int v : outside(0, 6)) {
            refused(state, made, "gives kind " + v, ahead, x -> x.gives(v, 1, 0, 0));
        }
        for (int v : outside(1, 3)) {
            refused(state, made, "gives deep " + v, ahead, x -> x.gives(0, v, 0, 0));
        }
        for (int v : outside(0, 3)) {
            refused(state, made, "gives color " + v, ahead, x -> x.gives(0, 1, 0, v));
            refused(state, made, "smoke color " + v, ahead, x -> x.smoke(0, v, 0));
        }
        for (int v : outside(-1, 3)) {
            refused(state, made, "smoke cut " + v, ahead, x -> x.smoke(0, 0, v));
        }
    }

    private static void badGuesses(String state, Made made, boolean nothing) {
        for (int v : outside(0, 119)) {
            refused(state, made, "look minute " + v, BAD, x -> x.look(v, 0, 0, 0));
        }
        for (int v : outside(0, 3)) {
            refused(state, made, "look color " + v, BAD, x -> x.look(0, v, 0, 0));
            refused(state, made, "odds cylinder " + v, BAD, x -> x.odds(v, 0));
        }
        for (int v : outside(-1, 3)) {
            refused(state, made, "look cut " + v, BAD, x -> x.look(0, 0, v, 0));
        }
        for (int v : outside(0, 2)) {
            refused(state, made, "look level " + v, BAD, x -> x.look(0, 0, 0, v));
        }
        for (int v : outside(0, 7)) {
            refused(state, made, "odds kind " + v, BAD, x -> x.odds(0, v));
        }
        for (int v : outside(0, 2730)) {
            refused(state, made, "guess " + v, -10, x -> x.guess(v, 0));
        }
        for (int v : outside(0, 3)) {
            refused(state, made, "guess cylinder " + v, -10, x -> x.guess(0, v));
        }
        for (int v : outside(0, 99999)) {
            refused(state, made, "leaks " + v, BAD, x -> x.leaks(v));
        }
        int minutes = nothing ? 20 : made.fresh().minutes();
        for (int v : outside(0, minutes - 1)) {
            refused(state, made, "next " + v, nothing ? NO : BAD, x -> x.next(v));
        }
    }

    private static void badSheds(String state, Made made) {
        for (int v : outside(1, 3)) {
            refused(state, made, "gone deep " + v, BAD, x -> x.gone(v, 1, 1));
            refused(state, made, "harvest deep " + v, BAD, x -> x.harvest(v, 1, 1, 1));
            refused(state, made, "drive deep " + v, BAD, x -> x.drive(v, 1, 1, 1));
        }
        for (int v : outside(0, 9)) {
            refused(state, made, "gone load " + v, BAD, x -> x.gone(1, v, 1));
        }
        for (int v : outside(0, 20)) {
            refused(state, made, "gone n " + v, BAD, x -> x.gone(1, 1, v));
        }
        for (int v : outside(0, 10)) {
            refused(state, made, "harvest n " + v, BAD, x -> x.harvest(1, v, 1, 1));
            refused(state, made, "part a " + v, BAD, x -> x.part(1, 1, v));
        }
        for (int v : outside(1, 10)) {
            refused(state, made, "drive n " + v, BAD, x -> x.drive(1, v, 1, 1));
        }
        for (int v : outside(0, 999)) {
            refused(state, made, "harvest w " + v, BAD, x -> x.harvest(1, 1, v, 1));
            refused(state, made, "drive w " + v, BAD, x -> x.drive(1, 1, v, 1));
            refused(state, made, "takes " + v, BAD, x -> x.takes(v));
        }
        for (int v : outside(0, 99999)) {
            refused(state, made, "harvest loss " + v, BAD, x -> x.harvest(1, 1, 1, v));
            refused(state, made, "drive loss " + v, BAD, x -> x.drive(1, 1, 1, v));
        }
        for (int v : outside(1, 99)) {
            refused(state, made, "part cost " + v, BAD, x -> x.part(v, 1, 1));
            refused(state, made, "part hours " + v, BAD, x -> x.part(1, v, 1));
        }
    }

    private static void badAsking(String state, Made made) {
        for (int v : outside(0, 2)) {
            refused(state, made, "sign " + v, BAD, x -> x.sign(v));
            refused(state, made, "status " + v, -1, x -> x.status(v));
        }
        for (int v : outside(0, 1)) {
            refused(state, made, "limb which " + v, BAD, x -> x.limb(v, 0));
            refused(state, made, "limb which " + v + " of none", BAD, x -> x.limb(v, 9));
            refused(state, made, "image " + v, BAD, x -> x.image(v));
            refused(state, made, "from " + v, BAD, x -> x.from(v));
        }
        for (int v : new int[] {-1, -2, -256, -(1 << 30), Integer.MIN_VALUE}) {
            refused(state, made, "limb i " + v + " above", BAD, x -> x.limb(0, v));
            refused(state, made, "limb i " + v + " below", BAD, x -> x.limb(1, v));
        }
        for (int v : outside(0, 3)) {
            refused(state, made, "count " + v, BAD, x -> x.count(v));
        }
    }

    private static void allBad(String state, Made made, boolean dayIsFaulty, boolean nothing) {
        badDays(state, made, dayIsFaulty);
        badGuesses(state, made, nothing);
        badSheds(state, made);
        badAsking(state, made);
    }

    // ---- NO and FULL

    private static void noForFaultyDay(String state, Made made) {
        refused(state, made, "minutes", NO, x -> x.minutes());
        refused(state, made, "warm", NO, x -> x.warm(0));
        refused(state, made, "gives", NO, x -> x.gives(0, 1, 0, 0));
        refused(state, made, "smoke", NO, x -> x.smoke(0, 0, -1));
        refused(state, made, "goes 0", NO, x -> x.goes(0));
        refused(state, made, "goes 1", NO, x -> x.goes(1));
        refused(state, made, "hidden", NO, x -> x.hidden());
        noForGuesses(state, made);
    }

    private static void noForGuesses(String state, Made made) {
        refused(state, made, "odds", NO, x -> x.odds(0, 0));
        refused(state, made, "odds of no fault", NO, x -> x.odds(3, 7));
        refused(state, made, "two", NO, x -> x.two());
        refused(state, made, "likeliest", NO, x -> x.likeliest());
        refused(state, made, "next", NO, x -> x.next(0));
        refused(state, made, "leaks 0", NO, x -> x.leaks(0));
        refused(state, made, "leaks 99999", NO, x -> x.leaks(99999));
    }

    private static void noAndFull() {
        noForFaultyDay("faulty", Refused::faulty);
        noForFaultyDay("faulty and filled", Refused::faultyAndFilled);
        noForGuesses("weighing nothing", Refused::weighingNothing);
        refused("new", Refused::anew, "from 0", NO, x -> x.from(0));
        refused("new", Refused::anew, "from 1", NO, x -> x.from(1));
        refused("told", Refused::told, "from 1", NO, x -> x.from(1));
        refused("faulty", Refused::faulty, "from 1", NO, x -> x.from(1));
        for (int n = 1; n <= 8; n++) {
            int many = n;
            refused("filled", Refused::filled, "type n " + n, FULL, x -> x.type(0x3b3b3b3b3b3b3b3bL, many));
        }
        refused("almost filled", Refused::almostFilled, "type n 8", FULL, x -> x.type(0x3b3b3b3b3b3b3b3bL, 8));
        refused("filled", Refused::filled, "look", FULL, x -> x.look(0, 0, 0, 0));
        refused("filled", Refused::filled, "look at none cut", FULL, x -> x.look(119, 3, -1, 2));
        refused("filled", Refused::filled, "part", FULL, x -> x.part(1, 1, 0));
        refused("filled", Refused::filled, "part of all", FULL, x -> x.part(99, 99, 10));
    }

    public static void main(String[] args) {
        allBad("new", Refused::anew, false, false);
        allBad("told", Refused::told, false, false);
        allBad("filled", Refused::filled, false, false);
        allBad("faulty", Refused::faulty, true, true);
        allBad("weighing nothing", Refused::weighingNothing, false, true);
        allBad("faulty and filled", Refused::faultyAndFilled, true, true);
        noAndFull();
        System.out.println(wrong == 0 ? refusals + " refused calls change nothing but STATUS"
                : wrong + " answers are not as due");
        if (wrong != 0) {
            System.exit(1);
        }
    }
}
