// The edges that the document names of THE DAY, its FAULTS and THE MOTOR (terms 1, promises 1 to 12),
// a sentence of it at a time; what refused calls leave as it was is in Refused.
public final class EdgesOfDays {
    private static final int NONE = -1, BAD = -2, NO = -3, FULL = -4;
    private static final int BLUE = 0, SWEET = 1, SHARP = 2, BLACK = 3;
    private static final String[] WORDS = {"stand", "idle", "coast"};
    private static int wrong = 0;

    private static void due(String what, long got, long want) {
        if (got != want) {
            wrong++;
            System.out.println(what + " answered " + got + ", due is " + want);
        }
    }

    private static BlueSmoke day(String text) {
        BlueSmoke x = new BlueSmoke();
        tell(x, text);
        return x;
    }

    /** Eight bytes a call: an object is used for at most 512 calls. */
    private static void tell(BlueSmoke x, String text) {
        for (int at = 0; at < text.length(); at += 8) {
            int n = Math.min(8, text.length() - at);
            long v = 0;
            for (int i = 0; i < n; i++) {
                v = v << 8 | text.charAt(at + i);
            }
            x.type(v, n);
        }
    }

    /** The day ahead of it is asked for, so that all of it was read. */
    private static void retell(BlueSmoke x, String text) {
        x.hidden();
        x.clear();
        tell(x, text);
    }

    private static void dueFaulty(String text, int want) {
        BlueSmoke x = day(text);
        due("faulty of '" + text + "'", x.faulty(), want);
        due("whether '" + text + "' has minutes", x.minutes() == NO ? 1 : 0, want == NONE ? 0 : 1);
    }

    private static void dueMinutes(String text, int want) {
        BlueSmoke x = day(text);
        due("faulty of '" + text + "'", x.faulty(), NONE);
        due("minutes of '" + text + "'", x.minutes(), want);
    }

    // ---- "A new object: As told; no FAULTS, no MINUTES."

    private static void anewThereIsNothing() {
        BlueSmoke x = new BlueSmoke();
        due("new: no FAULTS", x.count(3), 0);
        for (int cylinder = 0; cylinder < 4; cylinder++) {
            for (int color = 0; color < 4; color++) {
                due("new: no MINUTE 0 to smoke in", x.smoke(0, color, cylinder), BAD);
            }
        }
        due("new: no MINUTES", x.minutes(), 0);
        due("new: WARM behind none is FIRST, 0", x.warm(0), 0);
        due("new: burnt", x.goes(0), 0);
        due("new: drunk", x.goes(1), 0);
        due("new: not FAULTY", x.faulty(), NONE);
        due("new: refused BAD", x.status(0), 16);
        x.put(0, 100);
        due("no MINUTES: WARM behind none is FIRST", x.warm(0), 100);
        tell(x, "pull 9 1;");
        for (int color = 0; color < 4; color++) {
            due("new: none of the CYLINDERS smokes", x.smoke(0, color, NONE), 0);
        }
    }

    // ---- "THE DAY is a TEXT (120 bytes at most)"

    private static void textHas120BytesAtMost() {
        for (int n = 1; n <= 8; n++) {
            BlueSmoke x = new BlueSmoke();
            int had = 0;
            while (had + n <= 120) {
                had += n;
                due("typed " + n + " at a time", x.type(0x2020202020202020L, n), had);
            }
            for (int more = 1; more <= 8; more++) {
                if (had + more > 120) {
                    due("no room for " + more + " behind " + had, x.type(0x3b3b3b3b3b3b3b3bL, more), FULL);
                }
            }
            due("bytes of " + n + " at a time", x.count(0), had);
            due("none of what did not fit is there", x.faulty(), NONE);
            if (had < 120) {
                due("just room", x.type(0x2020202020202020L, 120 - had), 120);
            }
            due("full", x.type(32, 1), FULL);
            due("had", x.clear(), 120);
            due("room again", x.type(32, 1), 1);
        }
    }

    private static void typeTakesTheLowestBytesHighestFirst() {
        long v = 0x8191a1b1c1d1e1f1L;
        for (int n = 1; n <= 8; n++) {
            BlueSmoke x = new BlueSmoke();
            x.type(v, n);
            long h = 577;
            for (int count : new int[] {n, 0, 0, 0}) {
                h = 31 * h + count;
            }
            for (int i = n - 1; i >= 0; i--) {
                h = 31 * h + (v >>> 8 * i & 255);
            }
            for (int rest : new int[] {0, 5, 8, 9, 1, 1, 1, 1, 1, 1, 1, -1, -1, -1, -1, 0, 0, 1, 1}) {
                h = 31 * h + rest;
            }
            due("digest of the lowest " + n, x.digest(), h);
        }
        BlueSmoke least = new BlueSmoke();
        due("the least v", least.type(Long.MIN_VALUE, 8), 8);
        due("begins with byte 128", least.faulty(), 0);
        BlueSmoke most = new BlueSmoke();
        due("what is above the lowest n", most.type(0xffffffffffffff20L, 1), 1);
        due("is not typed", most.faulty(), NONE);
    }

    // ---- "ITEMS, each ended by ;" and "the TEXT's length, if it ends too early"

    private static void endsTooEarly() {
        String[] heads = {"", "idle 5;", " pull 9 60;  ", "stand 60;coast 60;"};
        String[] starts = {"stand", "idle", "coast", "pull", "pull 3", "stand 5", "idle 60", "coast 1", "pull 3 4"};
        for (String head : heads) {
            for (String start : starts) {
                // behind 120 minutes no n can stand
                boolean fits = !head.startsWith("stand 60") || start.matches("stand|idle|coast|pull|pull 3");
                if (fits) {
                    dueFaulty(head + start, (head + start).length());
                    dueFaulty(head + start + "   ", (head + start + "   ").length());
                }
            }
        }
        dueFaulty(" ".repeat(114) + "idle 5", 120);
        dueFaulty("idle 5" + " ".repeat(114), 120);
        dueFaulty(" ".repeat(113) + "idle 5;", NONE);
        dueFaulty("idle", 4);
        BlueSmoke x = day("coast 7");
        due("too early", x.minutes(), NO);
        tell(x, " ");
        due("still, its length grew", x.faulty(), 8);
        tell(x, ";");
        due("ended", x.minutes(), 7);
        tell(x, "coast");
        due("too early again", x.faulty(), 14);
    }

    private static void emptyOrBlanksAlone() {
        for (int many = 0; many <= 120; many++) {
            dueMinutes(" ".repeat(many), 0);
        }
    }

    // ---- "stand n; idle n; pull L n; coast n (n 1 .. 60 MINUTES, L 1 .. 9)"

    private static void numbersAsTold() {
        for (int n = 0; n <= 99; n++) {
            boolean told = n >= 1 && n <= 60;
            for (String word : WORDS) {
                dueNumber(word + " " + n + ";", told, n, word.length() + 1);
                dueNumber(word + n + ";", told, n, word.length());
            }
            dueNumber("pull 9 " + n + ";", told, n, 7);
            dueNumber("pull " + n + " 7;", n >= 1 && n <= 9, 7, 5);
            if (n < 10) {
                dueNumber("idle 0" + n + ";", told, n, 5);
                dueNumber("pull 0" + n + " 0" + n + ";", told, n, 5);
            }
        }
    }

    private static void dueNumber(String text, boolean told, int minutes, int place) {
        if (told) {
            dueMinutes(text, minutes);
        } else {
            dueFaulty(text, place);
        }
    }

    private static void loadIsAsPulled() {
        for (int load = 1; load <= 9; load++) {
            due("LOAD " + load, day("pull " + load + " 1;").gives(0, 1, 0, BLUE), load);
            due("LOAD 0" + load, day("pull 0" + load + " 1;").gives(0, 1, 0, BLUE), load);
        }
        for (String word : WORDS) {
            due("LOAD of " + word, day("pull 9 1;" + word + " 1;").gives(0, 3, 1, BLUE), 0);
        }
    }

    // ---- "a word that is none" and "a byte that begins none, too"

    private static void eachByteWhereAWordIsDue() {
        for (int b = 0; b < 256; b++) {
            char sign = (char) b;
            boolean blank = b == 32;
            dueFaulty("idle 1;" + sign, blank ? NONE : 7);
            dueFaulty("idle 1; " + sign + " ", blank ? NONE : 8);
            dueFaulty(sign + "idle 1;", blank ? NONE : 0);
            dueFaulty("idle 1;" + sign + "coast 2;", blank ? NONE : 7);
        }
    }

    private static void eachByteWhereANumberIsDue() {
        for (int b = 0; b < 256; b++) {
            char sign = (char) b;
            boolean letter = b >= 'a' && b <= 'z';
            boolean figure = b >= '0' && b <= '9';
            // idle01; .. idle51; are told well, idle61; is a number not as told
            boolean told = b == 32 || figure && b <= '5';
            dueFaulty("idle" + sign + "1;", told ? NONE : letter ? 0 : 4);
            dueFaulty("idle " + sign + "1;", told ? NONE : 5);
            dueFaulty("pull 1" + sign + "1;", b == 32 ? NONE : figure ? 5 : 6);
            dueFaulty("pull 1 " + sign, b == 32 ? 8 : b >= '1' && b <= '9' ? 8 : 7);
        }
    }

    private static void eachByteWhereAnEndIsDue() {
        for (int b = 0; b < 256; b++) {
            char sign = (char) b;
            boolean figure = b >= '0' && b <= '9';
            dueFaulty("idle 1" + sign, b == ';' ? NONE : b == 32 || figure ? 7 : 6);
            dueFaulty("idle 1 " + sign, b == ';' ? NONE : b == 32 ? 8 : 7);
            dueFaulty("idle 11" + sign, b == ';' ? NONE : b == 32 ? 8 : figure ? 5 : 7);
        }
    }

    private static void wordsThatAreNone() {
        for (String word : new String[] {"stand", "idle", "pull", "coast"}) {
            String rest = word.equals("pull") ? "1 1;" : "1;";
            dueFaulty(word + rest, NONE);
            dueFaulty(word.substring(1) + rest, 0);
            dueFaulty(word.substring(0, word.length() - 1) + rest, 0);
            dueFaulty(word + word.charAt(word.length() - 1) + rest, 0);
            dueFaulty("a" + word + rest, 0);
            dueFaulty(word.toUpperCase() + rest, 0);
            dueFaulty(word.substring(0, 1) + " " + word.substring(1) + " " + rest, 0);
            for (int i = 0; i < word.length(); i++) {
                String other = word.substring(0, i) + (char) (word.charAt(i) + 1) + word.substring(i + 1);
                dueFaulty("  " + other + rest, 2);
            }
        }
        dueFaulty("x", 0);
        dueFaulty("idle 1;id", 7);
    }

    private static void tokensOutOfTheirTurn() {
        String[] heads = {"", "idle 3;"};
        for (String head : heads) {
            int at = head.length();
            dueFaulty(head + "5", at);
            dueFaulty(head + "5 idle;", at);
            dueFaulty(head + ";", at);
            dueFaulty(head + "idle;", at + 4);
            dueFaulty(head + "idle ;", at + 5);
            dueFaulty(head + "idle idle 5;", at + 5);
            dueFaulty(head + "idle x", at + 5);
            dueFaulty(head + "idle 5 6;", at + 7);
            dueFaulty(head + "idle 5 idle 6;", at + 7);
            dueFaulty(head + "idle 5idle 6;", at + 6);
            dueFaulty(head + "pull;", at + 4);
            dueFaulty(head + "pull pull", at + 5);
            dueFaulty(head + "pull 5;", at + 6);
            dueFaulty(head + "pull 5 pull", at + 7);
            dueFaulty(head + "pull 5 5 5;", at + 9);
            dueFaulty(head + "pull 5 5 pull", at + 9);
            dueFaulty(head + "idle 5;;", at + 7);
            dueFaulty(head + "idle 5; ;", at + 8);
            dueFaulty(head + "idle 5;6", at + 7);
        }
    }

    // ---- "a run of three figures or more (at its first one)"

    private static void runsOfThreeFiguresOrMore() {
        for (String run : new String[] {"100", "001", "000", "060", "999", "1234", "0001", "00000000001"}) {
            dueFaulty("idle " + run + ";", 5);
            dueFaulty("idle" + run, 4);
            dueFaulty("coast  " + run + " ;", 7);
            dueFaulty("pull " + run + " 5;", 5);
            dueFaulty("pull 5 " + run + ";", 7);
            dueFaulty(" " + run + " idle 5;", 1);
            dueFaulty("idle 5 " + run + ";", 7);
            dueFaulty("idle 5;" + run, 7);
        }
    }

    // ---- "any number of blanks (32) ahead of, between, behind them (needed only between two words,
    // two numbers)"

    private static void blanks() {
        // seven gaps of 15 still fit into 120 bytes
        for (int many = 0; many <= 15; many++) {
            String gap = " ".repeat(many);
            dueMinutes(gap + "idle" + gap + "7" + gap + ";" + gap + "coast" + gap + "8" + gap + ";" + gap, 15);
            dueMinutes(gap + "pull" + gap + "3" + gap + " 4" + gap + ";" + gap, 4);
            dueFaulty(gap + "?", many);
            dueFaulty("idle" + gap + "?", 4 + many);
            dueFaulty("idle 5" + gap + "?", 6 + many);
            dueFaulty("idle 5;" + gap + "?", 7 + many);
        }
        dueMinutes("stand1;idle2;pull3 4;coast5;pull9 6;stand7;", 25);
        dueMinutes("idle 5;" + " ".repeat(113), 5);
        dueFaulty("pull34;", 4);
        dueFaulty("pull 345;", 5);
        dueFaulty("standidle 5;", 0);
        for (int b : new int[] {0, 9, 10, 11, 12, 13, 31, 33, 95, 127, 128, 160, 255}) {
            dueFaulty("idle" + (char) b + "5;", 4);
        }
    }

    // ---- "an n by which there would be more than 120 MINUTES"

    private static void minutesAre120AtMost() {
        dueMinutes("idle 60;coast 60;", 120);
        dueMinutes("idle 60;coast 59;", 119);
        for (String word : WORDS) {
            dueMinutes("idle 60;coast 59;" + word + " 1;", 120);
            dueFaulty("idle 60;coast 59;" + word + " 2;", 17 + word.length() + 1);
            dueFaulty("idle 60;coast 60;" + word + " 1;", 17 + word.length() + 1);
            dueFaulty("idle 60;coast 60;" + word + "60;", 17 + word.length());
        }
        dueMinutes("idle 60;coast 59;pull 9 1;", 120);
        dueFaulty("idle 60;coast 59;pull 9 2;", 24);
        dueFaulty("idle 60;coast 60;pull 9 1;", 24);
        dueFaulty("idle 60;coast 60;pull 0 1;", 22);
        dueFaulty("idle 60;coast 60;idle 0;", 22);
        dueFaulty("idle 60;coast 60;idle", 21);
        dueFaulty("idle 60;coast 60;pull 9", 23);
        dueFaulty("idle 1;idle 60;idle 60;", 20);
        StringBuilder many = new StringBuilder();
        for (int i = 0; i < 15; i++) {
            many.append("idle 8; ");
        }
        dueMinutes(many.toString(), 120);
        many.setCharAt(5, '9');
        dueFaulty(many.toString(), 117);
    }

    /** "the first TOKEN that can not stand there" */
    private static void theFirstOfSeveral() {
        dueFaulty("idle 0;idle 61;x", 5);
        dueFaulty("idle 5;idle 61;x", 12);
        dueFaulty("idle 5;idle 60;x ?", 15);
        dueFaulty("idle 5;idle 60;? x", 15);
        dueFaulty("idle ? 100", 5);
        dueFaulty("pull 0 0;", 5);
        dueFaulty("pull 1 0?", 7);
        dueFaulty("? idle", 0);
    }

    private static void clearEmptiesAll() {
        BlueSmoke x = day("x".repeat(120));
        due("faulty", x.faulty(), 0);
        due("had", x.clear(), 120);
        due("none", x.clear(), 0);
        due("not FAULTY", x.faulty(), NONE);
        due("no MINUTES", x.minutes(), 0);
        due("bytes", x.count(0), 0);
        due("clear is never refused", x.status(0) + x.status(1) + x.status(2), 0);
    }

    /** What was behind the bytes that there are now is no part of a TOKEN. */
    private static void clearedBytesAreNoMore() {
        String[][] pairs = {{"idlex", "idle"}, {"idle 12", "idle 1"}, {"idle 123", "idle 12"},
            {"idle 5;x", "idle 5;"}, {"idle 5;", "idle 5"}, {"pull 5 60;coast 60;", "pull 5 60;"}};
        int[] due = {4, 6, 7, NONE, 6, NONE};
        for (int i = 0; i < pairs.length; i++) {
            BlueSmoke x = day(pairs[i][0]);
            retell(x, pairs[i][1]);
            due("FAULTY of '" + pairs[i][1] + "' behind '" + pairs[i][0] + "'", x.faulty(), due[i]);
            due("its bytes", x.count(0), pairs[i][1].length());
        }
    }

    // ---- "WARM is FIRST ahead of MINUTE 0; behind each that is OFF 1 less (0 at least), else 2, and
    // a third (cut) of LOAD, more, 100 at most."

    private static void warmBehindEach() {
        for (int first = 0; first <= 100; first++) {
            String at = " at " + first;
            dueWarm("stand" + at, "stand 1;", first, Math.max(first - 1, 0));
            dueWarm("idle" + at, "idle 1;", first, Math.min(first + 2, 100));
            dueWarm("coast" + at, "coast 1;", first, Math.min(first + 2, 100));
            int[] third = {0, 0, 0, 1, 1, 1, 2, 2, 2, 3};
            for (int load = 1; load <= 9; load++) {
                dueWarm("pull " + load + at, "pull " + load + " 1;", first, Math.min(first + 2 + third[load], 100));
            }
        }
    }

    private static void dueWarm(String what, String text, int first, int behind) {
        BlueSmoke x = day(text);
        x.put(0, first);
        due("WARM ahead of " + what, x.warm(0), first);
        due("WARM behind " + what, x.warm(1), behind);
        due("there is none behind " + what, x.warm(2), BAD);
    }

    private static void warmOfAWholeDay() {
        BlueSmoke x = day("stand 60;pull 9 20;stand 40;");
        x.put(0, 59);
        due("just cold", x.warm(59), 0);
        due("no colder", x.warm(60), 0);
        due("95 behind 19", x.warm(79), 95);
        due("100 behind 20", x.warm(80), 100);
        due("1 less", x.warm(81), 99);
        due("behind the last", x.warm(120), 60);
        due("none behind it", x.warm(121), BAD);
        due("none ahead of the first", x.warm(-1), BAD);
    }

    // ---- FAULTS: "nothing while it is OFF"

    private static void nothingWhileOff() {
        BlueSmoke x = day("pull 9 1;coast 4;stand 2;");
        for (int kind = 0; kind < 7; kind++) {
            for (int deep = 1; deep <= 3; deep++) {
                for (int color = 0; color < 4; color++) {
                    due("OFF kind " + kind + " deep " + deep, x.gives(kind, deep, 5, color), 0);
                    due("OFF kind " + kind + " deep " + deep, x.gives(kind, deep, 6, color), 0);
                }
            }
        }
    }

    /** Each kind gives nothing but its own colors. */
    private static void othersColors() {
        BlueSmoke x = day("pull 9 1;coast 1;idle 1;pull 9 1;");
        int[][] colors = {{BLUE}, {BLUE}, {SWEET}, {SHARP}, {BLACK}, {BLACK}, {BLUE, SWEET}};
        for (int kind = 0; kind < 7; kind++) {
            for (int color = 0; color < 4; color++) {
                int sum = 0;
                for (int minute = 0; minute < 4; minute++) {
                    sum += x.gives(kind, 3, minute, color);
                }
                boolean own = colors[kind][0] == color || colors[kind].length > 1 && colors[kind][1] == color;
                due("kind " + kind + " gives color " + color, sum > 0 ? 1 : 0, own ? 1 : 0);
            }
        }
    }

    /** RINGED d LOAD; WORN half of it, cut; OVER d (LOAD less 4); STARVED by 2 more, and d above 6. */
    private static void byLoad() {
        // by LOAD 1 .. 9, 1 DEEP
        int[] over = {0, 0, 0, 0, 1, 2, 3, 4, 5};
        int[] starved = {0, 0, 1, 2, 3, 4, 5 + 1, 6 + 1, 7 + 1};
        for (int load = 1; load <= 9; load++) {
            BlueSmoke x = day("pull " + load + " 1;");
            x.put(0, 30);
            for (int deep = 1; deep <= 3; deep++) {
                String what = " deep " + deep + " LOAD " + load;
                due("RINGED" + what, x.gives(0, deep, 0, BLUE), deep * load);
                due("WORN" + what, x.gives(6, deep, 0, BLUE), deep * load / 2);
                due("WORN SWEET at 30" + what, x.gives(6, deep, 0, SWEET), 0);
                due("OVER" + what, x.gives(4, deep, 0, BLACK), deep * over[load - 1]);
                due("STARVED" + what, x.gives(5, deep, 0, BLACK), deep * starved[load - 1]);
                due("LATE, LOAD is not 0" + what, x.gives(3, deep, 0, SHARP), deep * 70 / 20 / 2);
            }
        }
        for (String word : new String[] {"idle", "coast"}) {
            BlueSmoke x = day(word + " 1;");
            for (int deep = 1; deep <= 3; deep++) {
                due("RINGED " + word, x.gives(0, deep, 0, BLUE), 0);
                due("WORN " + word, x.gives(6, deep, 0, BLUE), 0);
                due("OVER " + word, x.gives(4, deep, 0, BLACK), 0);
                due("STARVED, in place of LOAD 0: 0, " + word, x.gives(5, deep, 0, BLACK), 0);
                due("LATE, and d, " + word, x.gives(3, deep, 0, SHARP), deep * 5 / 2 + deep);
            }
        }
    }

    /** CRACKED d (100 less WARM) by 20, cut; LATE half of that, cut; WORN SWEET 1 below 30. */
    private static void byWarmth() {
        for (int deep = 1; deep <= 3; deep++) {
            for (int first = 0; first <= 100; first++) {
                BlueSmoke x = day("idle 1;pull 1 1;");
                x.put(0, first);
                int sweet = deep * (100 - first) / 20;
                String what = " deep " + deep + " WARM " + first;
                due("CRACKED" + what, x.gives(2, deep, 0, SWEET), sweet);
                due("LATE SHARP" + what, x.gives(3, deep, 0, SHARP), sweet / 2 + deep);
                due("LATE no SWEET" + what, x.gives(3, deep, 0, SWEET), 0);
                due("WORN SWEET" + what, x.gives(6, deep, 0, SWEET), first < 30 ? 1 : 0);
                int behind = Math.min(first + 2, 100);
                due("CRACKED behind" + what, x.gives(2, deep, 1, SWEET), deep * (100 - behind) / 20);
                due("LATE behind" + what, x.gives(3, deep, 1, SHARP), deep * (100 - behind) / 20 / 2);
                due("WORN behind" + what, x.gives(6, deep, 1, SWEET), behind < 30 ? 1 : 0);
            }
        }
        BlueSmoke x = day("idle 1;");
        due("CRACKED 1 deep has 1 at 80", givenAt(x, 80, 2, 1), 1);
        due("and none at 81", givenAt(x, 81, 2, 1), 0);
        due("CRACKED 3 deep has 1 at 93", givenAt(x, 93, 2, 3), 1);
        due("and none at 94", givenAt(x, 94, 2, 3), 0);
        due("WORN has 1 at 29", givenAt(x, 29, 6, 3), 1);
        due("and none at 30", givenAt(x, 30, 6, 3), 0);
    }

    private static int givenAt(BlueSmoke x, int first, int kind, int deep) {
        x.put(0, first);
        return x.gives(kind, deep, 0, SWEET);
    }

    // ---- STEMMED: what each text's last minutes burn, worked out by hand

    private static void dueOil(String text, int deep, int from, int... want) {
        BlueSmoke x = day(text);
        for (int i = 0; i < want.length; i++) {
            due("STEMMED " + deep + " deep in '" + text + "' at " + (from + i), x.gives(1, deep, from + i, BLUE), want[i]);
        }
    }

    private static void stemmedHoldsOil() {
        // 0 ahead of MINUTE 0
        dueOil("idle 2;", 3, 0, 0, 0);
        dueOil("pull 9 2;", 3, 0, 0, 0);
        dueOil("coast 2;", 3, 0, 0, 0);
        // OFF d more; 4 d at most; less, if it holds less; none when it is empty
        dueOil("stand 3;pull 1 2;", 1, 3, 3, 0);
        dueOil("stand 4;pull 1 2;", 1, 4, 4, 0);
        dueOil("stand 5;pull 9 3;", 1, 5, 4, 1, 0);
        dueOil("stand 4;pull 9 2;", 2, 4, 8, 0);
        dueOil("stand 5;pull 1 3;", 3, 5, 12, 3, 0);
        // DRAWN 3 d more
        dueOil("coast 1;pull 1 2;", 1, 0, 0, 3, 0);
        dueOil("coast 2;pull 1 3;", 1, 0, 0, 0, 4, 2, 0);
        dueOil("coast 2;pull 1 3;", 2, 0, 0, 0, 8, 4, 0);
        dueOil("coast 2;pull 1 3;", 3, 0, 0, 0, 12, 6, 0);
        // 1 at most, if it is neither OFF nor DRAWN and RINGED would give none
        dueOil("stand 2;idle 3;", 1, 2, 1, 1, 0);
        dueOil("stand 1;idle 4;", 3, 1, 1, 1, 1, 0);
        dueOil("stand 1;idle 1;coast 1;stand 1;pull 1 3;", 1, 0, 0, 1, 0, 0, 4, 0, 0);
        // RINGED would give some, by the least LOAD as by the most
        dueOil("stand 9;idle 1;pull 1 1;pull 9 1;", 1, 9, 1, 4, 4);
    }

    private static void stemmedHolds30AtMost() {
        dueOil("stand 29;pull 1 9;", 1, 29, 4, 4, 4, 4, 4, 4, 4, 1, 0);
        dueOil("stand 30;pull 1 9;", 1, 30, 4, 4, 4, 4, 4, 4, 4, 2, 0);
        dueOil("stand 31;pull 1 9;", 1, 31, 4, 4, 4, 4, 4, 4, 4, 2, 0);
        dueOil("stand 14;pull 1 5;", 2, 14, 8, 8, 8, 4, 0);
        dueOil("stand 15;pull 1 5;", 2, 15, 8, 8, 8, 6, 0);
        dueOil("stand 16;pull 1 5;", 2, 16, 8, 8, 8, 6, 0);
        dueOil("stand 9;pull 1 4;", 3, 9, 12, 12, 3, 0);
        dueOil("stand 10;pull 1 4;", 3, 10, 12, 12, 6, 0);
        dueOil("stand 11;pull 1 4;", 3, 11, 12, 12, 6, 0);
        dueOil("coast 9;pull 1 8;", 1, 9, 4, 4, 4, 4, 4, 4, 3, 0);
        dueOil("coast 10;pull 1 9;", 1, 10, 4, 4, 4, 4, 4, 4, 4, 2, 0);
        dueOil("coast 11;pull 1 9;", 1, 11, 4, 4, 4, 4, 4, 4, 4, 2, 0);
        dueOil("coast 4;pull 1 4;", 2, 4, 8, 8, 8, 0);
        dueOil("coast 5;pull 1 5;", 2, 5, 8, 8, 8, 6, 0);
        dueOil("coast 6;pull 1 5;", 2, 6, 8, 8, 8, 6, 0);
        dueOil("coast 3;pull 1 4;", 3, 3, 12, 12, 3, 0);
        dueOil("coast 4;pull 1 4;", 3, 4, 12, 12, 6, 0);
        // full, one less by idle, full again by OFF
        dueOil("stand 60;idle 1;stand 2;pull 9 9;", 1, 60, 1, 0, 0, 4, 4, 4, 4, 4, 4, 4, 2, 0);
        dueOil("coast 60;idle 3;pull 9 4;", 3, 60, 1, 1, 1, 12, 12, 3, 0);
    }

    private static void stemmedIsNotAskedInTurn() {
        BlueSmoke x = day("stand 2;idle 3;");
        for (int again = 0; again < 3; again++) {
            due("asked for the last", x.gives(1, 1, 4, BLUE), 0);
            due("asked for the one ahead of it", x.gives(1, 1, 3, BLUE), 1);
            due("asked for another depth", x.gives(1, 2, 4, BLUE), 1);
        }
    }

    // ---- THE MOTOR: "SMOKE of all CYLINDERS but one that is CUT (or none) together", BURNT, DRUNK

    private static void smokeByCuts() {
        BlueSmoke x = day("pull 1 1;");
        int[] deep = {1, 2, 3, 1};
        due("none has a FAULT", x.smoke(0, BLUE, 0), 0);
        for (int cylinder = 0; cylinder < 4; cylinder++) {
            x.fault(cylinder, 0, deep[cylinder]);
        }
        due("all", x.smoke(0, BLUE, NONE), 7);
        for (int cut = 0; cut < 4; cut++) {
            due("but " + cut, x.smoke(0, BLUE, cut), 7 - deep[cut]);
        }
        x.fault(2, NONE, 0);
        due("of three", x.smoke(0, BLUE, NONE), 4);
        due("cut where none is", x.smoke(0, BLUE, 2), 4);
        due("FAULTS", x.count(3), 3);
        due("BURNT by three", x.goes(0), 4);
    }

    private static void faultsOfACylinder() {
        BlueSmoke x = new BlueSmoke();
        for (int cylinder = 0; cylinder < 4; cylinder++) {
            due("the least", x.fault(cylinder, 0, 1), 1);
            due("as many as have one", x.count(3), cylinder + 1);
            due("the most in its place", x.fault(cylinder, 6, 3), 1);
            due("as many still", x.count(3), cylinder + 1);
        }
        for (int cylinder = 0; cylinder < 4; cylinder++) {
            due("none", x.fault(cylinder, NONE, 0), 1);
            due("none again", x.fault(cylinder, NONE, 0), 1);
            due("as many as are left", x.count(3), 3 - cylinder);
        }
    }

    private static void goesIsOfAllMinutes() {
        BlueSmoke x = day("idle 1;stand 1;pull 9 60;pull 1 58;");
        x.fault(0, 0, 3);
        x.fault(1, 2, 3);
        // 27 sixty times, 3 fifty-eight times
        due("BURNT of the longest day", x.goes(0), 27 * 60 + 3 * 58);
        // WARM 0 2 1 6 11 .. 96 100: 15, OFF, then 3 (100 - w) / 20 for w = 1, 6 .. 96
        int drunk = 15;
        for (int warm = 1; warm <= 96; warm += 5) {
            drunk += 3 * (100 - warm) / 20;
        }
        due("DRUNK of the longest day", x.goes(1), drunk);
        x.fault(0, NONE, 0);
        x.fault(1, NONE, 0);
        due("no BLUE of none", x.goes(0), 0);
        due("no SWEET of none", x.goes(1), 0);
        x.fault(3, 6, 1);
        due("SWEET of WORN, from 0 2 1 6 .. 26", x.goes(1), 1 + 6);
        due("BLUE of WORN", x.goes(0), 4 * 60);
        retell(x, "pull 9 1;");
        due("BURNT of a day that is shorter than the one before", x.goes(0), 4);
        due("DRUNK of it", x.goes(1), 1);
        x.clear();
        due("BURNT of no MINUTES", x.goes(0), 0);
        due("DRUNK of no MINUTES", x.goes(1), 0);
    }

    private static void behindAShorterDayThereIsNothing() {
        BlueSmoke x = day("pull 9 60;pull 9 60;");
        due("in its last MINUTE", x.gives(0, 1, 119, BLUE), 9);
        retell(x, "pull 2 3;");
        due("in the last one", x.gives(0, 1, 2, BLUE), 2);
        due("behind the last one", x.gives(0, 1, 3, BLUE), BAD);
        due("SMOKE behind it", x.smoke(3, BLUE, NONE), BAD);
        due("WARM behind it", x.warm(3), 6);
        due("WARM behind that", x.warm(4), BAD);
        tell(x, "?");
        due("FAULTY: no SMOKE", x.smoke(0, BLUE, NONE), NO);
        due("FAULTY: no WARM", x.warm(0), NO);
    }

    private static void putChangesWhatThereIs() {
        BlueSmoke x = day("idle 1;");
        int[] most = {100, 40, 9, 99};
        int[] least = {0, 1, 1, 0};
        int[] first = {0, 5, 8, 9};
        for (int what = 0; what < 4; what++) {
            due("at first " + what, x.put(what, most[what]), first[what]);
            due("its most " + what, x.put(what, most[what] + 1), BAD);
            due("still its most " + what, x.put(what, least[what]), most[what]);
            due("its least " + what, x.put(what, least[what] - 1), BAD);
            due("still its least " + what, x.put(what, least[what]), least[what]);
        }
        for (int kind = 0; kind < 7; kind++) {
            due("PRIOR at first", x.prior(kind, 9), 1);
            due("PRIOR above its most", x.prior(kind, 10), BAD);
            due("PRIOR at its most", x.prior(kind, 0), 9);
            due("PRIOR below its least", x.prior(kind, -1), BAD);
            due("PRIOR at its least", x.prior(kind, kind), 0);
        }
        for (int kind = 0; kind < 7; kind++) {
            due("PRIOR, each its own", x.prior(kind, 1), kind);
        }
    }

    public static void main(String[] args) {
        anewThereIsNothing();
        textHas120BytesAtMost();
        typeTakesTheLowestBytesHighestFirst();
        endsTooEarly();
        emptyOrBlanksAlone();
        numbersAsTold();
        loadIsAsPulled();
        eachByteWhereAWordIsDue();
        eachByteWhereANumberIsDue();
        eachByteWhereAnEndIsDue();
        wordsThatAreNone();
        tokensOutOfTheirTurn();
        runsOfThreeFiguresOrMore();
        blanks();
        minutesAre120AtMost();
        theFirstOfSeveral();
        clearEmptiesAll();
        clearedBytesAreNoMore();
        warmBehindEach();
        warmOfAWholeDay();
        nothingWhileOff();
        othersColors();
        byLoad();
        byWarmth();
        stemmedHoldsOil();
        stemmedHolds30AtMost();
        stemmedIsNotAskedInTurn();
        smokeByCuts();
        faultsOfACylinder();
        goesIsOfAllMinutes();
        behindAShorterDayThereIsNothing();
        putChangesWhatThereIs();
        System.out.println(wrong == 0 ? "all edges of days hold" : wrong + " answers are not as due");
        if (wrong != 0) {
            System.exit(1);
        }
    }
}
