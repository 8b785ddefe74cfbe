// For each promise ordinary inputs, the edges that the document names, and wrong inputs;
// every number that is due here was worked out by hand from the document.
public final class Promises {
    private static final int NONE = -1, BAD = -2, NO = -3, FULL = -4;
    private static int wrong = 0;

    private static void due(String what, long got, long want) {
        if (got != want) {
            wrong++;
            System.out.println(what + " answered " + got + ", due is " + want);
        }
    }

    /** A new object whose day is this text. */
    private static BlueSmoke day(String text) {
        BlueSmoke x = new BlueSmoke();
        tell(x, text);
        return x;
    }

    private static void tell(BlueSmoke x, String text) {
        for (int at = 0; at < text.length(); at++) {
            x.type(text.charAt(at), 1);
        }
    }

    private static void dueFraction(String what, BlueSmoke x, int answer, long above, long below) {
        due(what, answer, 1);
        due(what + " sign", x.sign(0), above == 0 ? 0 : 1);
        dueLimbs(what + " above", x, 0, above);
        dueLimbs(what + " below", x, 1, below);
    }

    /** Both told with what they have in common. */
    private static void dueFraction(String what, BlueSmoke x, int answer, long above, long below, long common) {
        due(what + " by hand", above % common + below % common, 0);
        dueFraction(what, x, answer, above / common, below / common);
    }

    private static void dueLimbs(String what, BlueSmoke x, int which, long value) {
        int many = 0;
        for (long rest = value; rest > 0; rest /= 1073741824L) {
            due(what + " limb " + many, x.limb(which, many), rest % 1073741824L);
            many++;
        }
        due(what + " limbs", x.sign(which + 1), many);
        due(what + " limb behind", x.limb(which, many), NONE);
    }

    private static void dueStatus(String what, BlueSmoke x, int bad, int no, int full) {
        due(what + " BAD", x.status(0), bad);
        due(what + " NO", x.status(1), no);
        due(what + " FULL", x.status(2), full);
    }

    private static void promise1NewObject() {
        BlueSmoke x = new BlueSmoke();
        due("1 faulty", x.faulty(), NONE);
        due("1 minutes", x.minutes(), 0);
        for (int what = 0; what <= 3; what++) {
            due("1 count " + what, x.count(what), 0);
        }
        dueStatus("1", x, 0, 0, 0);
        due("1 fraction's sign", x.sign(0), 0);
        due("1 limbs above", x.sign(1), 0);
        due("1 limbs below", x.sign(2), 1);
        due("1 below", x.limb(1, 0), 1);
        due("1 first", x.put(0, 1), 0);
        due("1 thin", x.put(1, 1), 5);
        due("1 right", x.put(2, 1), 8);
        due("1 sound", x.put(3, 1), 9);
        for (int kind = 0; kind < 7; kind++) {
            due("1 prior " + kind, x.prior(kind, 2), 1);
        }
        due("1 image 0", x.from(0), NO);
        due("1 image 1", x.from(1), NO);
        due("1 NONE", BlueSmoke.NONE, -1);
        due("1 BAD", BlueSmoke.BAD, -2);
        due("1 NO", BlueSmoke.NO, -3);
        due("1 FULL", BlueSmoke.FULL, -4);
    }

    private static void promise2Type() {
        BlueSmoke x = new BlueSmoke();
        due("2 highest first", x.type(0x69646c6520313b20L, 8), 8);
        due("2 as typed", x.minutes(), 1);
        due("2 lowest bytes alone", x.type(0x7777777777777720L, 1), 9);
        due("2 still told well", x.minutes(), 1);
        long before = x.digest();
        due("2 n 0", x.type(1, 0), BAD);
        due("2 n 9", x.type(1, 9), BAD);
        due("2 n -1", x.type(1, -1), BAD);
        due("2 n least", x.type(1, Integer.MIN_VALUE), BAD);
        due("2 unchanged", x.digest(), before);
        for (int bytes = 17; bytes <= 113; bytes += 8) {
            due("2 eight more", x.type(0x2020202020202020L, 8), bytes);
        }
        due("2 one too many", x.type(0, 8), FULL);
        due("2 BAD ahead of FULL", x.type(0, 9), BAD);
        due("2 the last ones", x.type(0x20202020202020L, 7), 120);
        due("2 full", x.type(0, 1), FULL);
        due("2 all there", x.count(0), 120);
        dueStatus("2", x, 5, 0, 2);
        BlueSmoke y = new BlueSmoke();
        due("2 a negative byte", y.type(-1, 2), 2);
        due("2 bytes are 0 .. 255", y.digest(), digestOfTwoBytes(255, 255));
        y.clear();
        y.type(0xff01L, 2);
        due("2 their order", y.digest(), digestOfTwoBytes(255, 1));
    }

    private static long digestOfTwoBytes(int one, int other) {
        return mix(2, 0, 0, 0, one, other, 0, 5, 8, 9, 1, 1, 1, 1, 1, 1, 1, -1, -1, -1, -1, 0, 0, 1, 1);
    }

    private static long mix(long... values) {
        long h = 577;
        for (long v : values) {
            h = 31 * h + v;
        }
        return h;
    }

    private static void promise3Clear() {
        BlueSmoke x = day("pull 9 60;");
        due("3 before", x.minutes(), 60);
        due("3 had", x.clear(), 10);
        due("3 empty", x.count(0), 0);
        due("3 no minutes", x.minutes(), 0);
        due("3 again", x.clear(), 0);
        tell(x, "idle 2;");
        due("3 told anew", x.minutes(), 2);
        BlueSmoke y = day("?");
        y.fault(1, 1, 1);
        y.look(1, 1, 1, 1);
        y.clear();
        due("3 not faulty", y.faulty(), NONE);
        due("3 faults stay", y.count(3), 1);
        due("3 looks stay", y.count(1), 1);
    }

    private static void dueFaulty(String text, int want) {
        due("4 faulty of '" + text + "'", day(text).faulty(), want);
    }

    private static void promise4Faulty() {
        dueFaulty("", NONE);
        dueFaulty("   ", NONE);
        dueFaulty("stand 1;idle 2;pull 3 4;coast 5;", NONE);
        dueFaulty("  pull3 60;coast60  ;  ", NONE);
        dueFaulty("pull 3 4 ; idle 01 ;", NONE);
        dueFaulty("pull09 09;", NONE);
        dueFaulty("idle", 4);
        dueFaulty("idle  ", 6);
        dueFaulty("idle 5", 6);
        dueFaulty("pull 5", 6);
        dueFaulty("pull 5 5 ", 9);
        dueFaulty("idl", 0);
        dueFaulty("idles 1;", 0);
        dueFaulty("standidle 1;", 0);
        dueFaulty(" Idle 1;", 1);
        dueFaulty("idLe 1;", 0);
        dueFaulty("idle 1; 2;", 8);
        dueFaulty("idle idle 1;", 5);
        dueFaulty("idle;", 4);
        dueFaulty(";", 0);
        dueFaulty("idle 1;;", 7);
        dueFaulty("idle 0;", 5);
        dueFaulty("idle 60;", NONE);
        dueFaulty("idle 61;", 5);
        dueFaulty("idle 123;", 5);
        dueFaulty("idle 001;", 5);
        dueFaulty("idle 1 2;", 7);
        dueFaulty("pull 34;", 5);
        dueFaulty("pull 0 4;", 5);
        dueFaulty("pull 10 4;", 5);
        dueFaulty("pull 1 61;", 7);
        dueFaulty("pull 3;", 6);
        dueFaulty("pull 111 4;", 5);
        dueFaulty("idle 60;idle 60;", NONE);
        dueFaulty("idle 60;idle 59;idle 1;", NONE);
        dueFaulty("idle 60;idle 59;idle 2;", 21);
        dueFaulty("idle 60;idle 60;idle 1;", 21);
        dueFaulty("idle 60;idle 60;pull 1", 22);
        dueFaulty("idle 1?", 6);
        dueFaulty("idle 1\t;", 6);
        dueFaulty("idle 1;\u00e4", 7);
        dueFaulty("? idle x", 0);
        dueFaulty("idlez 1;", 0);
        dueFaulty("aidle 1;", 0);
        dueFaulty("xtand 1;", 0);
        dueFaulty("stane 1;", 0);
        dueFaulty("idle`1;", 4);
        dueFaulty("idle{1;", 4);
        dueFaulty("idle 1/;", 6);
        dueFaulty("idle 1:", 6);
        dueFaulty("idle pull;", 5);
        dueFaulty("pull coast;", 5);
        dueFaulty("12 idle", 0);
        dueFaulty("stand5;stand05 ;stand 5; ", NONE);
        dueFaulty("stand 60; idle 60; pull 9 60;", 26);
        dueFaulty("stand 60; idle 60; pull 9 61;", 26);
        dueFaulty("-1", 0);
    }

    private static void promise5Minutes() {
        due("5 none", day("  ").minutes(), 0);
        due("5 all", day("stand 1;idle 2;pull 3 4;coast 5;").minutes(), 12);
        due("5 most", day("idle60;coast60;").minutes(), 120);
        BlueSmoke x = day("idle 5");
        due("5 faulty", x.minutes(), NO);
        dueStatus("5", x, 0, 1, 0);
        tell(x, ";");
        due("5 mended", x.minutes(), 5);
    }

    private static void promise6Put() {
        BlueSmoke x = new BlueSmoke();
        int[] least = {0, 1, 1, 0};
        int[] most = {100, 40, 9, 99};
        int[] first = {0, 5, 8, 9};
        for (int what = 0; what < 4; what++) {
            due("6 was at first " + what, x.put(what, most[what]), first[what]);
            due("6 too great " + what, x.put(what, most[what] + 1), BAD);
            due("6 was most " + what, x.put(what, least[what]), most[what]);
            due("6 too small " + what, x.put(what, least[what] - 1), BAD);
            due("6 was least " + what, x.put(what, first[what]), least[what]);
        }
        due("6 what 4", x.put(4, 5), BAD);
        due("6 what -1", x.put(-1, 5), BAD);
        due("6 what most", x.put(Integer.MAX_VALUE, 5), BAD);
        dueStatus("6", x, 11, 0, 0);
        due("6 nothing changed", x.digest(), new BlueSmoke().digest());
    }

    private static void promise7Prior() {
        BlueSmoke x = new BlueSmoke();
        due("7 at first", x.prior(6, 9), 1);
        due("7 was", x.prior(6, 0), 9);
        due("7 was least", x.prior(6, 4), 0);
        due("7 another", x.prior(0, 5), 1);
        due("7 kind 7", x.prior(7, 1), BAD);
        due("7 kind -1", x.prior(-1, 1), BAD);
        due("7 v 10", x.prior(1, 10), BAD);
        due("7 v -1", x.prior(1, -1), BAD);
        due("7 untouched", x.prior(1, 1), 1);
        due("7 still", x.prior(6, 1), 4);
        dueStatus("7", x, 4, 0, 0);
    }

    private static void promise8Fault() {
        BlueSmoke x = day("pull 5 1;");
        due("8 a fault", x.fault(0, 0, 3), 1);
        due("8 it smokes", x.smoke(0, 0, NONE), 15);
        due("8 another in its place", x.fault(0, 0, 1), 1);
        due("8 it smokes less", x.smoke(0, 0, NONE), 5);
        due("8 the last", x.fault(3, 6, 3), 1);
        due("8 two", x.count(3), 2);
        due("8 none with a depth", x.fault(0, NONE, 1), BAD);
        due("8 no depth", x.fault(0, 0, 0), BAD);
        due("8 too deep", x.fault(0, 0, 4), BAD);
        due("8 kind 7", x.fault(0, 7, 1), BAD);
        due("8 kind -2", x.fault(0, -2, 0), BAD);
        due("8 cylinder 4", x.fault(4, 0, 1), BAD);
        due("8 cylinder -1", x.fault(-1, NONE, 0), BAD);
        due("8 still two", x.count(3), 2);
        dueStatus("8", x, 7, 0, 0);
        due("8 none", x.fault(0, NONE, 0), 1);
        due("8 none where none is", x.fault(1, NONE, 0), 1);
        due("8 one", x.count(3), 1);
        due("8 none smokes", x.smoke(0, 0, 3), 0);
    }

    private static void promise9Warm() {
        // behind each: stand -1, idle +2, pull L + 2 + L / 3, coast +2
        BlueSmoke x = day("idle 1;pull 2 1;pull 3 1;pull 9 1;coast 1;stand 15;");
        int[] want = {0, 2, 4, 7, 12, 14, 13};
        for (int minute = 0; minute < want.length; minute++) {
            due("9 warm " + minute, x.warm(minute), want[minute]);
        }
        due("9 cold", x.warm(19), 0);
        due("9 no colder, behind the last", x.warm(20), 0);
        due("9 there is none", x.warm(21), BAD);
        due("9 -1", x.warm(-1), BAD);
        x.put(0, 98);
        due("9 first", x.warm(0), 98);
        due("9 up to 100", x.warm(1), 100);
        due("9 no more", x.warm(2), 100);
        dueStatus("9", x, 2, 0, 0);
        BlueSmoke longest = day("idle 1;stand 59;idle 59;pull 9 1;");
        due("9 ahead of the longest day's last", longest.warm(119), 100);
        longest.put(0, 0);
        due("9 behind the longest day's last", longest.warm(120), 100);
        due("9 behind that there is none", longest.warm(121), BAD);
        BlueSmoke cooling = day("pull 9 20;stand 40;stand 60;");
        due("9 at its last", cooling.warm(119), 1);
        due("9 behind its last", cooling.warm(120), 0);
        due("9 empty, first", new BlueSmoke().warm(0), 0);
        due("9 empty", new BlueSmoke().warm(1), BAD);
        BlueSmoke y = day("idle 5");
        due("9 faulty", y.warm(0), NO);
        due("9 NO ahead of BAD", y.warm(-1), NO);
        dueStatus("9 faulty", y, 0, 2, 0);
    }

    private static void dueGiven(String what, BlueSmoke x, int kind, int deep, int minute, int... colors) {
        for (int color = 0; color < 4; color++) {
            due("10 " + what + " color " + color, x.gives(kind, deep, minute, color), colors[color]);
        }
    }

    private static void promise10GivesOfOil() {
        BlueSmoke x = day("stand 12;idle 2;pull 1 2;coast 12;pull 9 2;idle 60;");
        dueGiven("ringed off", x, 0, 3, 11, 0, 0, 0, 0);
        dueGiven("ringed idle", x, 0, 3, 12, 0, 0, 0, 0);
        dueGiven("ringed pull 1", x, 0, 3, 14, 3, 0, 0, 0);
        dueGiven("ringed coast", x, 0, 3, 16, 0, 0, 0, 0);
        dueGiven("ringed pull 9", x, 0, 2, 28, 18, 0, 0, 0);
        // 1 deep: holds 12, idle 1 1, pull 4 4, holds 2, coast to 30 at most, pull 4 4, idle 1 each
        int[] shallow = {1, 1, 4, 4, 0};
        for (int i = 0; i < shallow.length; i++) {
            dueGiven("stemmed 1 at " + (12 + i), x, 1, 1, 12 + i, shallow[i], 0, 0, 0);
        }
        due("10 stemmed 1 pull", x.gives(1, 1, 28, 0), 4);
        due("10 stemmed 1 idle 22nd", x.gives(1, 1, 51, 0), 1);
        due("10 stemmed 1 empty", x.gives(1, 1, 52, 0), 0);
        // 3 deep: 30 at most, idle 1 1, pull 12 12, holds 4, coast to 30, pull 12 12, idle 6 minutes
        int[] deep = {1, 1, 12, 12, 0};
        for (int i = 0; i < deep.length; i++) {
            due("10 stemmed 3 at " + (12 + i), x.gives(1, 3, 12 + i, 0), deep[i]);
        }
        due("10 stemmed 3 off", x.gives(1, 3, 5, 0), 0);
        due("10 stemmed 3 second pull", x.gives(1, 3, 29, 0), 12);
        due("10 stemmed 3 idle 6th", x.gives(1, 3, 35, 0), 1);
        due("10 stemmed 3 empty", x.gives(1, 3, 36, 0), 0);
        dueGiven("worn off", x, 6, 3, 0, 0, 0, 0, 0);
        dueGiven("worn pull 1", x, 6, 3, 14, 1, 1, 0, 0);
        BlueSmoke y = day("stand 1;coast 1;pull 9 9;");
        due("10 stemmed drawn 3 d", y.gives(1, 2, 2, 0), 8);
        due("10 stemmed empties", y.gives(1, 2, 3, 0), 0);
        BlueSmoke z = day("pull 1 20;");
        z.put(0, 27);
        dueGiven("worn cold", z, 6, 2, 1, 1, 1, 0, 0);
        dueGiven("worn at 31", z, 6, 2, 2, 1, 0, 0, 0);
        z.put(0, 30);
        dueGiven("worn at 30", z, 6, 2, 0, 1, 0, 0, 0);
    }

    private static void promise10GivesOfWaterAndSoot() {
        BlueSmoke x = day("stand 1;idle 1;pull 4 1;coast 1;pull 6 1;pull 7 1;pull 9 1;pull 2 1;pull 3 1;");
        x.put(0, 12); // so 12, 11, 13, 16, 18, 22, 26, 31, 33
        dueGiven("cracked off", x, 2, 3, 0, 0, 0, 0, 0);
        dueGiven("cracked idle", x, 2, 3, 1, 0, 13, 0, 0);
        dueGiven("cracked pull", x, 2, 1, 2, 0, 4, 0, 0);
        dueGiven("late off", x, 3, 3, 0, 0, 0, 0, 0);
        dueGiven("late idle", x, 3, 3, 1, 0, 0, 9, 0);
        dueGiven("late pull", x, 3, 3, 2, 0, 0, 6, 0);
        dueGiven("late coast", x, 3, 2, 3, 0, 0, 6, 0);
        dueGiven("over off", x, 4, 3, 0, 0, 0, 0, 0);
        dueGiven("over at 4", x, 4, 3, 2, 0, 0, 0, 0);
        dueGiven("over at 6", x, 4, 3, 4, 0, 0, 0, 6);
        dueGiven("starved off", x, 5, 3, 0, 0, 0, 0, 0);
        dueGiven("starved idle", x, 5, 3, 1, 0, 0, 0, 0);
        dueGiven("starved coast", x, 5, 3, 3, 0, 0, 0, 0);
        dueGiven("starved at 2", x, 5, 3, 7, 0, 0, 0, 0);
        dueGiven("starved at 3", x, 5, 3, 8, 0, 0, 0, 3);
        dueGiven("starved at 4", x, 5, 2, 2, 0, 0, 0, 4);
        dueGiven("starved at 6", x, 5, 3, 4, 0, 0, 0, 12);
        dueGiven("starved at 7", x, 5, 3, 5, 0, 0, 0, 18);
        dueGiven("starved at 9", x, 5, 1, 6, 0, 0, 0, 8);
        BlueSmoke y = day("idle 1;");
        y.put(0, 100);
        due("10 cracked warm", y.gives(2, 3, 0, 1), 0);
        due("10 late warm", y.gives(3, 3, 0, 2), 3);
    }

    private static void promise10Refused() {
        BlueSmoke x = day("idle 2;");
        due("10 kind 7", x.gives(7, 1, 0, 0), BAD);
        due("10 kind -1", x.gives(-1, 1, 0, 0), BAD);
        due("10 deep 0", x.gives(0, 0, 0, 0), BAD);
        due("10 deep 4", x.gives(0, 4, 0, 0), BAD);
        due("10 minute 2", x.gives(0, 1, 2, 0), BAD);
        due("10 minute -1", x.gives(0, 1, -1, 0), BAD);
        due("10 color 4", x.gives(0, 1, 0, 4), BAD);
        due("10 color -1", x.gives(0, 1, 0, -1), BAD);
        dueStatus("10", x, 8, 0, 0);
        BlueSmoke y = day("idle");
        due("10 faulty", y.gives(0, 1, 0, 0), NO);
        due("10 NO ahead of BAD", y.gives(9, 9, 9, 9), NO);
        dueStatus("10 faulty", y, 0, 2, 0);
    }

    private static void promise11Smoke() {
        BlueSmoke x = day("pull 8 2;");
        due("11 sound", x.smoke(0, 0, NONE), 0);
        x.fault(0, 0, 1);
        x.fault(1, 6, 2);
        x.fault(2, 5, 1);
        x.fault(3, 2, 2);
        due("11 blue", x.smoke(0, 0, NONE), 16);
        due("11 blue without 0", x.smoke(0, 0, 0), 8);
        due("11 blue without 1", x.smoke(0, 0, 1), 8);
        due("11 blue without 2", x.smoke(0, 0, 2), 16);
        due("11 sweet", x.smoke(0, 1, NONE), 11);
        due("11 sweet without 3", x.smoke(0, 1, 3), 1);
        due("11 sharp", x.smoke(0, 2, NONE), 0);
        due("11 black", x.smoke(1, 3, NONE), 7);
        due("11 black without 2", x.smoke(1, 3, 2), 0);
        due("11 minute 2", x.smoke(2, 0, NONE), BAD);
        due("11 minute -1", x.smoke(-1, 0, NONE), BAD);
        due("11 color 4", x.smoke(0, 4, NONE), BAD);
        due("11 color -1", x.smoke(0, -1, NONE), BAD);
        due("11 cut 4", x.smoke(0, 0, 4), BAD);
        due("11 cut -2", x.smoke(0, 0, -2), BAD);
        dueStatus("11", x, 6, 0, 0);
        tell(x, "x");
        due("11 faulty", x.smoke(0, 0, NONE), NO);
        due("11 NO ahead of BAD", x.smoke(0, 0, 4), NO);
    }

    private static void promise12Goes() {
        BlueSmoke x = day("pull 5 3;idle 1;");
        due("12 nothing burnt", x.goes(0), 0);
        x.fault(0, 0, 2);
        x.fault(2, 6, 1);
        due("12 burnt", x.goes(0), 36);
        due("12 drunk", x.goes(1), 4);
        x.fault(1, 2, 1);
        due("12 drunk of two", x.goes(1), 4 + 5 + 4 + 4 + 4);
        due("12 what 2", x.goes(2), BAD);
        due("12 what -1", x.goes(-1), BAD);
        tell(x, "idle");
        due("12 faulty", x.goes(0), NO);
        due("12 BAD ahead of NO", x.goes(2), BAD);
        dueStatus("12", x, 3, 1, 0);
        due("12 no minutes", new BlueSmoke().goes(1), 0);
    }

    private static void promise13Look() {
        BlueSmoke x = new BlueSmoke();
        due("13 minute 120", x.look(120, 0, 0, 0), BAD);
        due("13 minute -1", x.look(-1, 0, 0, 0), BAD);
        due("13 color 4", x.look(0, 4, 0, 0), BAD);
        due("13 color -1", x.look(0, -1, 0, 0), BAD);
        due("13 cut 4", x.look(0, 0, 4, 0), BAD);
        due("13 cut -2", x.look(0, 0, -2, 0), BAD);
        due("13 level 3", x.look(0, 0, 0, 3), BAD);
        due("13 level -1", x.look(0, 0, 0, -1), BAD);
        due("13 none yet", x.count(1), 0);
        for (int number = 0; number < 8; number++) {
            due("13 number", x.look(119 - number, number % 4, number % 5 - 1, number % 3), number);
        }
        due("13 full", x.look(0, 0, 0, 0), FULL);
        due("13 BAD ahead of FULL", x.look(0, 0, 0, 3), BAD);
        due("13 eight", x.count(1), 8);
        dueStatus("13", x, 9, 0, 1);
    }

    private static void promise14Forget() {
        BlueSmoke x = day("pull 9 1;");
        due("14 none", x.forget(), 0);
        x.look(0, 0, NONE, 2);
        x.look(0, 0, NONE, 2);
        due("14 blue it is", x.likeliest(), 1);
        due("14 had", x.forget(), 2);
        due("14 forgotten", x.count(1), 0);
        dueFraction("14 odds as without", x, x.odds(0, 0), 18, 269);
        due("14 from the start", x.look(0, 0, NONE, 2), 0);
    }

    // With no looks: SOUND 9; ones 9 (3 + 2 + 1) a kind, 42 * 9 a cylinder; twos 42 * 42 a pair.
    // ALL 9 + 4 * 378 + 6 * 1764 = 12105.
    private static void promise15Odds() {
        BlueSmoke x = new BlueSmoke();
        // one kind: 6 * 9 + 3 pairs * 6 * 42 = 54 + 756 = 810
        dueFraction("15 a kind", x, x.odds(0, 0), 18, 269);
        dueFraction("15 another", x, x.odds(3, 6), 18, 269);
        dueFraction("15 no fault", x, x.odds(1, 7), 143, 269);
        due("15 cylinder 4", x.odds(4, 0), BAD);
        due("15 cylinder -1", x.odds(-1, 0), BAD);
        due("15 kind 8", x.odds(0, 8), BAD);
        due("15 kind -1", x.odds(0, -1), BAD);
        dueFraction("15 the same fraction still", x, 1, 143, 269);
        x.prior(0, 0);
        dueFraction("15 never", x, x.odds(0, 0), 0, 1);
        for (int kind = 1; kind < 7; kind++) {
            x.prior(kind, 0);
        }
        dueFraction("15 surely sound", x, x.odds(2, 7), 1, 1);
        x.put(3, 0);
        due("15 all is 0", x.odds(2, 7), NO);
        due("15 BAD ahead of NO", x.odds(4, 7), BAD);
        x.put(3, 9);
        tell(x, "idle");
        due("15 faulty", x.odds(2, 7), NO);
        due("15 BAD ahead of faulty", x.odds(2, 8), BAD);
        dueStatus("15", x, 6, 2, 0);
    }

    // Just RINGED with PRIOR 1: SOUND 9, ones 27 18 9 each, twos (3 2 1) by (3 2 1).
    private static BlueSmoke ringedAlone(String text) {
        BlueSmoke x = day(text);
        for (int kind = 1; kind < 7; kind++) {
            x.prior(kind, 0);
        }
        return x;
    }

    private static void promise15OddsByLooks() {
        BlueSmoke x = ringedAlone("pull 2 1;");
        x.put(1, 4);
        // cut 0: blue 0 by 0 and by ones in 0; by 1 2 3: 2 (thin), 4 (thin), 6 (more)
        x.look(0, 0, 0, 1);
        // agrees 16, else 2
        long sound = 9 * 2;
        long zero = 54 * 2;
        long other = 27 * 16 + 18 * 16 + 9 * 2;
        long zeroAndOther = 6 * (3 * 16 + 2 * 16 + 2);
        // of two others: 2 + 2 = 4 thin (weight 9), all else is more (27)
        long others = 9 * 16 + 27 * 2;
        long all = sound + zero + 3 * other + 3 * zeroAndOther + 3 * others;
        due("15 by hand, above", zero + 3 * zeroAndOther, 18 * 88);
        due("15 by hand, below", all, 18 * 245);
        dueFraction("15 zero", x, x.odds(0, 0), 88, 245);
        x.forget();
        dueFraction("15 asked ahead of a look", x, x.odds(0, 7), 31, 49);
        x.look(1, 0, 0, 1);
        dueFraction("15 behind the last minute", x, x.odds(0, 7), 31, 49);
        x.look(0, 3, NONE, 0);
        dueFraction("15 no black by any", x, x.odds(0, 7), 31, 49);
        x.look(0, 0, NONE, 2);
        // none cut: nothing 9, thin 4 * 45 + 6 * 9, more 4 * 9 + 6 * 27, of these 2 * 6 * 27 with two
        dueFraction("15 much was seen", x, x.two(), 54 * 2 + 162 * 16, 9 * 2 + 234 * 2 + 198 * 16, 18);
        x.put(2, 1);
        dueFraction("15 seldom right", x, x.two(), 54 * 9 + 162 * 2, 9 * 9 + 234 * 9 + 198 * 2, 9);
        x.put(1, 40);
        dueFraction("15 all that is there is thin", x, x.odds(0, 7), 31, 49);
        tell(x, "idle 1;");
        // now the look at minute 1 counts: it saw a little, and there is none by all of them
        dueFraction("15 all of them wrong", x, x.odds(0, 7), 31, 49);
        x.put(0, 1);
        dueFraction("15 nor does warmth change it", x, x.odds(0, 7), 31, 49);
    }

    private static void promise15OddsByWarmth() {
        BlueSmoke x = day("idle 1;");
        for (int kind = 0; kind < 7; kind++) {
            x.prior(kind, kind == 2 ? 1 : 0);
        }
        x.look(0, 1, NONE, 0);
        // SWEET 5 10 15 at 0, none at 100
        dueFraction("15 cold", x, x.odds(0, 7), 9 * 16 + 162 * 2 + 108 * 2, 9 * 16 + 432 * 2, 36);
        x.put(0, 100);
        dueFraction("15 warm", x, x.odds(0, 7), 31, 49);
        x.put(0, 0);
        x.put(3, 0);
        dueFraction("15 cold, never sound", x, x.odds(0, 7), 5, 8);
        x.clear();
        dueFraction("15 no day", x, x.odds(0, 7), 5, 8);
    }

    private static void promise16Two() {
        BlueSmoke x = new BlueSmoke();
        dueFraction("16 two", x, x.two(), 1176, 1345);
        x.put(3, 0);
        dueFraction("16 without sound", x, x.two(), 7, 8);
        x.prior(0, 9);
        // 6 * (9 + 6) = 90: ones 4 * 9 * 90, twos 6 * 90 * 90
        dueFraction("16 more of ringed", x, x.two(), 15, 16);
        for (int kind = 0; kind < 7; kind++) {
            x.prior(kind, 0);
        }
        due("16 all is 0", x.two(), NO);
        x.put(3, 1);
        dueFraction("16 never", x, x.two(), 0, 1);
        tell(x, "?");
        due("16 faulty", x.two(), NO);
        dueStatus("16", x, 0, 2, 0);
    }

    private static void promise17Likeliest() {
        BlueSmoke x = new BlueSmoke();
        due("17 the first of ones", x.likeliest(), 1);
        x.put(3, 27);
        due("17 sound, of like ones the first", x.likeliest(), 0);
        x.put(3, 26);
        due("17 one again", x.likeliest(), 1);
        x.prior(3, 2);
        due("17 late", x.likeliest(), 10);
        x.prior(3, 4);
        // late alone 9 * 12 = 108, twice 144
        due("17 late in 0 and 1", x.likeliest(), 85 + 9 * 21 + 9);
        BlueSmoke y = day("pull 1 1;");
        y.put(2, 9);
        y.look(0, 0, 0, 0);
        y.look(0, 0, 1, 1);
        y.look(0, 0, 2, 1);
        due("17 ringed in 0", y.likeliest(), 1);
        BlueSmoke z = day("pull 1 1;");
        z.look(0, 0, 2, 0);
        z.look(0, 0, 2, 0);
        z.look(0, 0, NONE, 1);
        z.look(0, 0, 0, 1);
        due("17 ringed in 2", z.likeliest(), 43);
        z.put(3, 0);
        for (int kind = 0; kind < 7; kind++) {
            z.prior(kind, 0);
        }
        due("17 all is 0", z.likeliest(), NO);
        due("17 faulty", day(";").likeliest(), NO);
        dueStatus("17", z, 0, 1, 0);
    }

    private static void dueGuess(int number, int... faults) {
        BlueSmoke x = new BlueSmoke();
        for (int cylinder = 0; cylinder < 4; cylinder++) {
            due("18 guess " + number + " in " + cylinder, x.guess(number, cylinder), faults[cylinder]);
        }
    }

    private static void promise18Guess() {
        dueGuess(0, -1, -1, -1, -1);
        dueGuess(1, 0, -1, -1, -1);
        dueGuess(21, 20, -1, -1, -1);
        dueGuess(22, -1, 0, -1, -1);
        dueGuess(84, -1, -1, -1, 20);
        dueGuess(85, 0, 0, -1, -1);
        dueGuess(86, 0, 1, -1, -1);
        dueGuess(106, 1, 0, -1, -1);
        dueGuess(85 + 440, 20, 20, -1, -1);
        dueGuess(85 + 441, 0, -1, 0, -1);
        dueGuess(85 + 2 * 441 + 23, 1, -1, -1, 2);
        dueGuess(85 + 3 * 441 + 23, -1, 1, 2, -1);
        dueGuess(85 + 4 * 441 + 23, -1, 1, -1, 2);
        dueGuess(85 + 5 * 441 + 23, -1, -1, 1, 2);
        dueGuess(2730, -1, -1, 20, 20);
        BlueSmoke x = day("?");
        due("18 though faulty", x.guess(1, 0), 0);
        due("18 number 2731", x.guess(2731, 0), -10);
        due("18 number -1", x.guess(-1, 0), -10);
        due("18 cylinder 4", x.guess(0, 4), -10);
        due("18 cylinder -1", x.guess(0, -1), -10);
        dueStatus("18", x, 4, 0, 0);
    }

    private static void promise19Next() {
        // Of RINGED alone nothing but BLUE tells one guess from another: nothing or, by cut, more.
        BlueSmoke x = ringedAlone("pull 9 1;idle 1;");
        // blue, cut 0: nothing by 9 + 54, more by all else of 441; cut none: nothing by 9 alone
        due("19 a cylinder cut", x.next(0), 0);
        due("19 of like ones the least", x.next(1), 0);
        due("19 minute 2", x.next(2), BAD);
        due("19 minute -1", x.next(-1), BAD);
        x.put(3, 99);
        // nothing by 99 + 54 (cut) or 99 (none), more by 378 or 432
        due("19 still cut", x.next(0), 0);
        BlueSmoke y = ringedAlone("pull 9 1;");
        y.look(0, 0, NONE, 0);
        y.look(0, 0, NONE, 0);
        y.look(0, 0, NONE, 0);
        // nothing: 9 * 4096 = 36864 against 432 * 8 in all else: none cut has the least in it
        due("19 none cut", y.next(0), 4);
        BlueSmoke w = ringedAlone("pull 2 1;");
        // blue 2 4 6. none cut: nothing 9, thin 4 * 45 + 6 * 9 = 234; cut: thin 135 + 90 + 27 = 252
        due("19 by thin 5", w.next(0), 4);
        w.put(1, 2);
        // none cut: more 4 * 27 + 6 * 36 = 324; cut: more 81 + 54 + 108 = 243
        due("19 by thin 2", w.next(0), 0);
        w.put(1, 6);
        // none cut: thin 216 + 6 * 21 = 342; cut: thin 162 + 108 + 63 = 333
        due("19 by thin 6", w.next(0), 0);
        w.look(0, 0, 0, 2);
        w.look(0, 0, 0, 2);
        w.look(0, 0, 0, 2);
        // so it is two but 0: all of them more than 6 (with 4096): the likeliest, if any is cut, is thin
        due("19 what was looked at is not the best", w.next(0), 1);
        BlueSmoke z = day("idle 1;");
        z.prior(0, 0);
        z.prior(1, 0);
        z.prior(4, 0);
        z.prior(5, 0);
        z.prior(2, 0);
        z.prior(6, 0);
        // LATE alone gives nothing but SHARP: 3 (thin), 7, 10; cut none: more by 324, cut 0: by 243
        due("19 sharp", z.next(0), 20);
        for (int kind = 0; kind < 7; kind++) {
            z.prior(kind, 0);
        }
        z.put(3, 0);
        due("19 all is 0", z.next(0), NO);
        due("19 NO ahead of BAD", z.next(5), NO);
        due("19 faulty", day("idle 1").next(0), NO);
        due("19 no minutes", new BlueSmoke().next(0), BAD);
        dueStatus("19", x, 2, 0, 0);
        dueStatus("19 NO", z, 0, 2, 0);
    }

    private static void promise20Leaks() {
        BlueSmoke x = ringedAlone("pull 2 1;idle 5;");
        // 1 2 3 deep burn 2 4 6; weights 9; 27 18 9 four times; by twos 4: 9, 6: 12, 8: 10, 10: 4, 12: 1
        dueFraction("20 none", x, x.leaks(0), 0, 1);
        dueFraction("20 one", x, x.leaks(1), 9 / 9, 441 / 9);
        dueFraction("20 two", x, x.leaks(2), 1, 49);
        dueFraction("20 three", x, x.leaks(3), (9 + 108) / 9, 49);
        dueFraction("20 five", x, x.leaks(5), (9 + 108 + 72 + 54) / 9, 49);
        dueFraction("20 twelve", x, x.leaks(12), 435 / 3, 441 / 3);
        dueFraction("20 thirteen", x, x.leaks(13), 1, 1);
        dueFraction("20 most", x, x.leaks(99999), 1, 1);
        due("20 too many", x.leaks(100000), BAD);
        due("20 -1", x.leaks(-1), BAD);
        x.prior(0, 0);
        x.put(3, 0);
        due("20 all is 0", x.leaks(1), NO);
        due("20 BAD ahead of NO", x.leaks(-1), BAD);
        due("20 faulty", day("x").leaks(1), NO);
        dueStatus("20", x, 3, 1, 0);
    }

    private static void promise21Hidden() {
        due("21 no minutes", new BlueSmoke().hidden(), 127);
        due("21 off", day("stand 60;").hidden(), 127);
        // hot: idle gives LATE 3, and nothing else
        due("21 idle", day("idle 1;").hidden(), 127 - 8);
        due("21 pull 1", day("pull 1 1;").hidden(), 127 - 1 - 64);
        due("21 pull 3", day("pull 3 1;").hidden(), 127 - 1 - 64 - 32);
        due("21 pull 5", day("pull 5 1;").hidden(), 127 - 1 - 64 - 32 - 16);
        due("21 stood before", day("stand 1;idle 1;").hidden(), 127 - 8 - 2);
        due("21 cools to crack", day("stand 6;pull 1 1;").hidden(), 127 - 1 - 64 - 2);
        due("21 cools by 7", day("stand 7;pull 1 1;").hidden(), 127 - 1 - 64 - 2 - 4);
        BlueSmoke x = day("idle 3;");
        x.put(0, 20);
        due("21 were it hot", x.hidden(), 127 - 8);
        due("21 it is as warm as it was", x.warm(1), 22);
        due("21 and gives as it did", x.gives(2, 1, 0, 1), 4);
        tell(x, "?");
        due("21 faulty", x.hidden(), NO);
        dueStatus("21", x, 0, 1, 0);
    }

    private static void promise22Gone() {
        BlueSmoke x = new BlueSmoke();
        dueFraction("22 no days", x, x.gone(3, 9, 0), 0, 1);
        dueFraction("22 no load", x, x.gone(3, 0, 20), 0, 1);
        dueFraction("22 one day", x, x.gone(3, 9, 1), 9, 20);
        dueFraction("22 lowest terms", x, x.gone(3, 4, 1), 1, 5);
        dueFraction("22 two days", x, x.gone(3, 1, 2), 39, 400);
        dueFraction("22 two to go", x, x.gone(2, 1, 2), 1, 400);
        // 3 (1/20)^2 (19/20) + (1/20)^3 = 58 / 8000
        dueFraction("22 two in three", x, x.gone(2, 1, 3), 29, 4000);
        dueFraction("22 too few days", x, x.gone(1, 9, 2), 0, 1);
        dueFraction("22 three", x, x.gone(1, 9, 3), 729, 8000);
        // 5 by 20 on 3 or 4 of 4 days: (4 * 3 + 1) / 256
        dueFraction("22 three in four", x, x.gone(1, 5, 4), 13, 256);
        dueFraction("22 two in four", x, x.gone(2, 5, 4), 6 * 9 + 13, 256);
        dueFraction("22 one in four", x, x.gone(3, 5, 4), 256 - 81, 256);
        // 1 - (3/4)^20, lowered by 5 twenty times
        dueFraction("22 lowered from three limbs", x, x.gone(3, 5, 20), 1096024843375L, 1099511627776L);
        // 1 - (9/10)^20: 87842334540943071199 by 10^20, three limbs each
        due("22 lowered in three limbs", x.gone(3, 2, 20), 1);
        due("22 above, lowest", x.limb(0, 0), 972036063);
        due("22 above, second", x.limb(0, 1), 205170540);
        due("22 above, third", x.limb(0, 2), 76);
        due("22 below, lowest", x.limb(1, 0), 588251136);
        due("22 below, second", x.limb(1, 1), 790460597);
        due("22 below, third", x.limb(1, 2), 86);
        // 1 - (19/20)^20: below 20^20 in limbs of 30 bits
        due("22 twenty days", x.gone(3, 1, 20), 1);
        due("22 limbs below", x.sign(2), 3);
        due("22 lowest limb below", x.limb(1, 0), 0);
        due("22 second limb below", x.limb(1, 1), 190366720);
        due("22 third limb below", x.limb(1, 2), 90949470);
        long before = x.digest();
        due("22 deep 0", x.gone(0, 1, 1), BAD);
        due("22 deep 4", x.gone(4, 1, 1), BAD);
        due("22 load 10", x.gone(1, 10, 1), BAD);
        due("22 load -1", x.gone(1, -1, 1), BAD);
        due("22 n 21", x.gone(1, 1, 21), BAD);
        due("22 n -1", x.gone(1, 1, -1), BAD);
        due("22 unchanged", x.digest(), before);
        dueStatus("22", x, 6, 0, 0);
    }

    private static void promise23Harvest() {
        BlueSmoke x = new BlueSmoke();
        dueFraction("23 no days", x, x.harvest(3, 0, 999, 99999), 0, 1);
        dueFraction("23 one day", x, x.harvest(1, 1, 10, 99999), 90, 1);
        dueFraction("23 with loss", x, x.harvest(3, 1, 10, 100), 45, 1);
        dueFraction("23 better not", x, x.harvest(3, 1, 1, 99999), 0, 1);
        dueFraction("23 two days", x, x.harvest(3, 2, 10, 100), 279, 4);
        // 2 deep: 9 now, then 9 - 9 / 20 * 20 = 0 if 3 deep, else 9: 9 + 11 / 20 * 9
        dueFraction("23 deeper", x, x.harvest(2, 2, 1, 20), 279, 20);
        // no loss: 3 deep for two days: 9 + 11 / 20 * 9
        dueFraction("23 and then no more", x, x.harvest(3, 2, 1, 0), 279, 20);
        dueFraction("23 nothing for it", x, x.harvest(1, 10, 0, 5), 0, 1);
        due("23 deep 0", x.harvest(0, 1, 1, 1), BAD);
        due("23 deep 4", x.harvest(4, 1, 1, 1), BAD);
        due("23 n -1", x.harvest(1, -1, 1, 1), BAD);
        due("23 n 11", x.harvest(1, 11, 1, 1), BAD);
        due("23 w -1", x.harvest(1, 1, -1, 1), BAD);
        due("23 w 1000", x.harvest(1, 1, 1000, 1), BAD);
        due("23 loss -1", x.harvest(1, 1, 1, -1), BAD);
        due("23 loss 100000", x.harvest(1, 1, 1, 100000), BAD);
        dueStatus("23", x, 8, 0, 0);
        due("23 the most of all", x.harvest(1, 10, 999, 0), 1);
        due("23 its limbs", x.sign(1), 2);
        due("23 its lowest limb", x.limb(0, 0), 737700753);
    }

    private static void promise24Drive() {
        BlueSmoke x = new BlueSmoke();
        due("24 all it can", x.drive(1, 1, 1, 99999), 9);
        due("24 not at 3", x.drive(3, 1, 1, 99999), 0);
        due("24 not quite", x.drive(3, 1, 10, 201), 0);
        due("24 of like ones the least", x.drive(3, 1, 10, 200), 0);
        due("24 just", x.drive(3, 1, 10, 199), 9);
        due("24 nothing for it", x.drive(1, 3, 0, 0), 0);
        // 3 deep, two days of w 10, loss 190: behind it 9 * (10 - 9.5) = 4.5; 10 - (190 + 4.5) / 20 > 0
        due("24 the first day too", x.drive(3, 2, 10, 190), 9);
        // loss 198: behind it 0.9; 10 - 198.9 / 20 > 0; loss 199: 0.45; 199.45 / 20 < 10
        due("24 nearly", x.drive(3, 2, 10, 199), 9);
        // 2 deep: at 2 two days 9 w; at 3 with much loss nothing: 1 - (9 - 0) / 20 > 0
        due("24 deeper", x.drive(2, 2, 1, 99999), 9);
        due("24 ten days", x.drive(3, 10, 1, 19), 9);
        due("24 ten days, not at 3", x.drive(3, 10, 1, 20), 0);
        due("24 n 0", x.drive(1, 0, 1, 1), BAD);
        due("24 n 11", x.drive(1, 11, 1, 1), BAD);
        due("24 deep 0", x.drive(0, 1, 1, 1), BAD);
        due("24 deep 4", x.drive(4, 1, 1, 1), BAD);
        due("24 w 1000", x.drive(1, 1, 1000, 1), BAD);
        due("24 w -1", x.drive(1, 1, -1, 1), BAD);
        due("24 loss -1", x.drive(1, 1, 1, -1), BAD);
        due("24 loss 100000", x.drive(1, 1, 1, 100000), BAD);
        due("24 the fraction is not touched", x.sign(1), 0);
        dueStatus("24", x, 8, 0, 0);
    }

    private static void promise25Part() {
        BlueSmoke x = new BlueSmoke();
        due("25 cost 0", x.part(0, 1, 1), BAD);
        due("25 cost 100", x.part(100, 1, 1), BAD);
        due("25 hours 0", x.part(1, 0, 1), BAD);
        due("25 hours 100", x.part(1, 100, 1), BAD);
        due("25 a -1", x.part(1, 1, -1), BAD);
        due("25 a 11", x.part(1, 1, 11), BAD);
        due("25 none yet", x.count(2), 0);
        due("25 least", x.part(1, 1, 0), 0);
        due("25 most", x.part(99, 99, 10), 1);
        for (int number = 2; number < 6; number++) {
            due("25 number", x.part(number, 1, 1), number);
        }
        due("25 full", x.part(1, 1, 1), FULL);
        due("25 BAD ahead of FULL", x.part(0, 1, 1), BAD);
        due("25 six", x.count(2), 6);
        dueStatus("25", x, 7, 0, 1);
    }

    private static void promise26Takes() {
        BlueSmoke x = new BlueSmoke();
        due("26 no parts", x.takes(999), 0);
        x.part(5, 10, 4);
        x.part(3, 9, 4);
        x.part(2, 1, 4);
        due("26 coin 0", x.takes(0), 0);
        due("26 coin 1", x.takes(1), 0);
        due("26 coin 2", x.takes(2), 4);
        due("26 coin 4", x.takes(4), 2);
        due("26 like worth, which costs no more", x.takes(5), 1);
        due("26 coin 8", x.takes(8), 3);
        due("26 all", x.takes(999), 7);
        due("26 coin -1", x.takes(-1), BAD);
        due("26 coin 1000", x.takes(1000), BAD);
        dueStatus("26", x, 2, 0, 0);
        BlueSmoke y = new BlueSmoke();
        y.part(6, 2, 6);
        y.part(5, 3, 4);
        y.part(5, 4, 3);
        y.part(1, 99, 0);
        due("26 of like ones what costs least, then the least bits", y.takes(9), 2);
        due("26 what is never needed is not bought", y.takes(999), 7);
        due("26 the cheaper two", y.takes(11), 6);
        due("26 as many as there is coin for", y.takes(10), 6);
        BlueSmoke one = new BlueSmoke();
        one.part(1, 99, 0);
        due("26 never needed", one.takes(999), 0);
        one.part(1, 1, 1);
        due("26 hardly needed", one.takes(1), 2);
        due("26 hardly needed, none else", one.takes(999), 2);
        BlueSmoke six = new BlueSmoke();
        for (int i = 0; i < 6; i++) {
            six.part(1 + i, 10 * (6 - i), 1 + i % 2);
        }
        // worth 60 100 40 60 20 20 for 1 2 3 4 5 6
        due("26 six, coin 21", six.takes(21), 63);
        due("26 six, coin 20", six.takes(20), 63 - 32);
        due("26 six, coin 15", six.takes(15), 15 + 16);
        due("26 six, coin 10", six.takes(10), 15);
        due("26 six, coin 7", six.takes(7), 1 + 2 + 8);
        BlueSmoke z = new BlueSmoke();
        z.part(2, 4, 1);
        z.part(3, 6, 1);
        z.part(5, 10, 1);
        due("26 the least bits are the least number", z.takes(5), 3);
    }

    private static void promise27Sign() {
        BlueSmoke x = new BlueSmoke();
        due("27 of 0", x.sign(0), 0);
        due("27 none above", x.sign(1), 0);
        due("27 one below", x.sign(2), 1);
        x.gone(1, 9, 20);
        due("27 above 0", x.sign(0), 1);
        due("27 above", x.sign(1), 3);
        due("27 below", x.sign(2), 3);
        x.gone(3, 1, 7);
        due("27 20 by the power of 7", x.sign(2), 2);
        x.gone(3, 1, 6);
        due("27 64000000", x.sign(2), 1);
        due("27 what 3", x.sign(3), BAD);
        due("27 what -1", x.sign(-1), BAD);
        dueStatus("27", x, 2, 0, 0);
    }

    private static void promise28Limb() {
        BlueSmoke x = new BlueSmoke();
        due("28 0 has none", x.limb(0, 0), NONE);
        due("28 below", x.limb(1, 0), 1);
        due("28 not so many", x.limb(1, 1), NONE);
        due("28 far too many", x.limb(1, Integer.MAX_VALUE), NONE);
        x.gone(3, 1, 7); // below 1280000000
        due("28 lowest first", x.limb(1, 0), 1280000000 - 1073741824);
        due("28 then the next", x.limb(1, 1), 1);
        due("28 above", x.limb(0, 0), 1280000000 - 893871739);
        due("28 which 2", x.limb(2, 0), BAD);
        due("28 which -1", x.limb(-1, 0), BAD);
        due("28 i -1", x.limb(0, -1), BAD);
        due("28 i least", x.limb(1, Integer.MIN_VALUE), BAD);
        dueStatus("28", x, 4, 0, 0);
    }

    private static BlueSmoke full() {
        BlueSmoke x = day("pull 9 2;");
        x.put(0, 7);
        x.put(1, 6);
        x.put(2, 5);
        x.put(3, 4);
        x.prior(6, 3);
        x.fault(2, 1, 2);
        x.look(1, 2, 3, 1);
        x.part(9, 8, 7);
        return x;
    }

    private static void promises29And30Images() {
        BlueSmoke x = full();
        due("30 none kept", x.from(1), NO);
        due("29 kept", x.image(1), 1);
        due("30 the other is not", x.from(0), NO);
        long before = x.digest();
        tell(x, "idle 5;");
        x.put(0, 50);
        x.put(1, 20);
        x.put(2, 1);
        x.put(3, 50);
        x.prior(6, 9);
        x.fault(2, NONE, 0);
        x.fault(0, 3, 3);
        x.look(1, 1, 1, 1);
        x.part(1, 1, 1);
        due("29 another", x.image(0), 1);
        long later = x.digest();
        due("30 back", x.from(1), 1);
        due("30 as it was", x.digest(), before);
        due("30 minutes as they were", x.minutes(), 2);
        due("30 warm as it was", x.warm(1), 12);
        due("30 on", x.from(0), 1);
        due("30 as it was then", x.digest(), later);
        due("30 minutes", x.minutes(), 7);
        due("30 odds anew", x.odds(0, 0), 1);
        x.forget();
        due("30 an image does not change with it", x.from(0), 1);
        due("30 its looks are there", x.count(1), 2);
        x.gone(3, 9, 1);
        x.from(1);
        due("30 the fraction stays", x.limb(1, 0), 20);
        due("29 kept over", x.image(0), 1);
        due("30 the later one", x.from(0), 1);
        due("30 is as the first", x.minutes(), 2);
        due("29 image 2", x.image(2), BAD);
        due("29 image -1", x.image(-1), BAD);
        due("30 image 2", x.from(2), BAD);
        due("30 image -1", x.from(-1), BAD);
        dueStatus("30 status stays", x, 4, 2, 0);
    }

    private static void imagesKeepWhatGuessesRestOn() {
        BlueSmoke x = ringedAlone("pull 2 1;");
        x.image(0);
        x.prior(0, 0);
        dueFraction("30 surely sound", x, x.odds(0, 7), 1, 1);
        x.from(0);
        dueFraction("30 not so sure", x, x.odds(0, 7), 31, 49);
    }

    private static void promise31Status() {
        BlueSmoke x = new BlueSmoke();
        dueStatus("31 none", x, 0, 0, 0);
        due("31 what 3", x.status(3), -1);
        due("31 what -1", x.status(-1), -1);
        dueStatus("31 these were BAD", x, 2, 0, 0);
        x.guess(-1, 0);
        dueStatus("31 -10 is BAD too", x, 3, 0, 0);
        x.limb(0, 5);
        x.faulty();
        x.guess(0, 0);
        dueStatus("31 NONE is no refusal", x, 3, 0, 0);
        x.from(0);
        dueStatus("31 NO", x, 3, 1, 0);
        for (int i = 0; i < 9; i++) {
            x.look(0, 0, 0, 0);
        }
        dueStatus("31 FULL", x, 3, 1, 1);
        x.image(0);
        x.from(0);
        x.clear();
        x.forget();
        dueStatus("31 stays", x, 3, 1, 1);
    }

    private static void promise32Count() {
        BlueSmoke x = full();
        x.look(1, 1, 1, 1);
        x.part(1, 1, 1);
        x.part(1, 1, 1);
        x.fault(0, 0, 1);
        x.fault(1, 0, 1);
        x.fault(3, 0, 1);
        due("32 bytes", x.count(0), 9);
        due("32 looks", x.count(1), 2);
        due("32 parts", x.count(2), 3);
        due("32 faults", x.count(3), 4);
        due("32 what 4", x.count(4), BAD);
        due("32 what -1", x.count(-1), BAD);
        dueStatus("32", x, 2, 0, 0);
    }

    private static void promise33Digest() {
        due("33 new", new BlueSmoke().digest(),
                mix(0, 0, 0, 0, 0, 5, 8, 9, 1, 1, 1, 1, 1, 1, 1, -1, -1, -1, -1, 0, 0, 1, 1));
        BlueSmoke x = full();
        x.look(3, 1, NONE, 2);
        x.gone(3, 1, 7);
        x.status(9);
        due("33 all of it", x.digest(),
                mix(9, 2, 1, 1, 'p', 'u', 'l', 'l', ' ', '9', ' ', '2', ';', 7, 6, 5, 4,
                        1, 1, 1, 1, 1, 1, 3, -1, -1, 4, -1, 1, 2, 3, 1, 3, 1, -1, 2, 9, 8, 7,
                        1, 1, 2, 1280000000 - 893871739, 1280000000 - 1073741824, 1));
        x.image(0);
        long before = x.digest();
        x.from(1);
        due("33 without status and images", x.digest(), before);
        x.clear();
        x.forget();
        due("33 what is no more does not count", x.digest(),
                mix(0, 0, 1, 1, 7, 6, 5, 4, 1, 1, 1, 1, 1, 1, 3, -1, -1, 4, -1, 9, 8, 7,
                        1, 1, 2, 1280000000 - 893871739, 1280000000 - 1073741824, 1));
    }

    public static void main(String[] args) {
        promise1NewObject();
        promise2Type();
        promise3Clear();
        promise4Faulty();
        promise5Minutes();
        promise6Put();
        promise7Prior();
        promise8Fault();
        promise9Warm();
        promise10GivesOfOil();
        promise10GivesOfWaterAndSoot();
        promise10Refused();
        promise11Smoke();
        promise12Goes();
        promise13Look();
        promise14Forget();
        promise15Odds();
        promise15OddsByLooks();
        promise15OddsByWarmth();
        promise16Two();
        promise17Likeliest();
        promise18Guess();
        promise19Next();
        promise20Leaks();
        promise21Hidden();
        promise22Gone();
        promise23Harvest();
        promise24Drive();
        promise25Part();
        promise26Takes();
        promise27Sign();
        promise28Limb();
        promises29And30Images();
        imagesKeepWhatGuessesRestOn();
        promise31Status();
        promise32Count();
        promise33Digest();
        System.out.println(wrong == 0 ? "all promises hold" : wrong + " answers are not as due");
        if (wrong != 0) {
            System.exit(1);
        }
    }
}
