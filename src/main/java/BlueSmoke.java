import java.util.Arrays;

/** Blue smoke, white smoke: what ails a motor of four cylinders, told by its smoke. */
public final class BlueSmoke {
    public static final int NONE = -1, BAD = -2, NO = -3, FULL = -4;

    private static final int CYLINDERS = 4, KINDS = 7, DEPTHS = 3, COLORS = 4, LEVELS = 3;
    private static final int FAULTS = KINDS * DEPTHS;
    private static final int TEXT_MOST = 120, MINUTES_MOST = 120;
    private static final int LOOKS_MOST = 8, LOOK_SIZE = 4, PARTS_MOST = 6, PART_SIZE = 3;
    private static final int IMAGES = 2;

    private static final int BLUE = 0, SWEET = 1, SHARP = 2, BLACK = 3;
    private static final int RINGED = 0, STEMMED = 1, CRACKED = 2, LATE = 3, OVER = 4, STARVED = 5, WORN = 6;
    private static final int WARM_MOST = 100, OIL_MOST = 30;

    private static final int SETTINGS = 4, FIRST = 0, THIN = 1, RIGHT = 2, SOUND = 3;
    private static final int[] SETTING_LEAST = {0, 1, 1, 0};
    private static final int[] SETTING_MOST = {100, 40, 9, 99};

    private static final int FIRST_OF_TWO = 1 + CYLINDERS * FAULTS;
    private static final int GUESSES = FIRST_OF_TWO + 6 * FAULTS * FAULTS;
    private static final int NO_FAULT = 7, NO_CUT = 4, NO_GUESS = -10;

    private static final int LOAD_MOST = 9, CHANCES = 20;

    private final Kept now = new Kept();
    private final Kept[] images = new Kept[IMAGES];
    private final Day day = new Day();
    private final Guesses guesses = new Guesses();
    private final Plan plan = new Plan();
    private final Fraction fraction = new Fraction();
    private final int[] refused = new int[3];
    private boolean dayStale = true;
    private boolean guessesStale = true;

    public BlueSmoke() {
    }

    // ---- days, motors

    public int type(long v, int n) {
        if (n < 1 || n > 8) {
            return bad();
        }
        if (now.length + n > TEXT_MOST) {
            return full();
        }
        for (int i = n - 1; i >= 0; i--) {
            set(now.text, now.length, (int) (v >> (8 * i)) & 255);
            now.length++;
        }
        dayChanged();
        return now.length;
    }

    public int clear() {
        int had = now.length;
        now.length = 0;
        dayChanged();
        return had;
    }

    public int faulty() {
        readDay();
        return day.wrongAt;
    }

    public int minutes() {
        if (dayIsFaulty()) {
            return no();
        }
        return day.length;
    }

    public int put(int what, int v) {
        if (!isSetting(what, v)) {
            return bad();
        }
        int was = at(now.settings, what);
        set(now.settings, what, v);
        dayChanged();
        return was;
    }

    public int prior(int kind, int v) {
        if (kind < 0 || kind >= KINDS || v < 0 || v > 9) {
            return bad();
        }
        int was = at(now.priors, kind);
        set(now.priors, kind, v);
        guessesStale = true;
        return was;
    }

    public int fault(int cylinder, int kind, int deep) {
        boolean none = kind == NONE && deep == 0;
        if (cylinder < 0 || cylinder >= CYLINDERS || !(none || isFault(kind, deep))) {
            return bad();
        }
        set(now.motor, cylinder, none ? NONE : faultOf(kind, deep));
        return 1;
    }

    public int warm(int minute) {
        if (dayIsFaulty()) {
            return no();
        }
        if (minute < 0 || minute > day.length) {
            return bad();
        }
        return at(day.warmth, minute);
    }

    public int gives(int kind, int deep, int minute, int color) {
        if (dayIsFaulty()) {
            return no();
        }
        if (!isFault(kind, deep) || !day.has(minute) || !isColor(color)) {
            return bad();
        }
        return day.given(faultOf(kind, deep), minute, color);
    }

    public int smoke(int minute, int color, int cut) {
        if (dayIsFaulty()) {
            return no();
        }
        if (!day.has(minute) || !isColor(color) || !isCut(cut)) {
            return bad();
        }
        return smokeOf(minute, color, cut);
    }

    public int goes(int what) {
        if (what < 0 || what > 1) {
            return bad();
        }
        if (dayIsFaulty()) {
            return no();
        }
        int sum = 0;
        for (int minute = 0; minute < day.length; minute++) {
            sum += smokeOf(minute, what == 0 ? BLUE : SWEET, NONE);
        }
        return sum;
    }

    // ---- guesses

    public int look(int minute, int color, int cut, int level) {
        boolean told = minute >= 0 && minute < MINUTES_MOST && isColor(color) && isCut(cut);
        if (!told || level < 0 || level >= LEVELS) {
            return bad();
        }
        if (now.lookCount >= LOOKS_MOST) {
            return full();
        }
        int place = now.lookCount * LOOK_SIZE;
        set(now.looks, place, minute);
        set(now.looks, place + 1, color);
        set(now.looks, place + 2, cut);
        set(now.looks, place + 3, level);
        guessesStale = true;
        return now.lookCount++;
    }

    public int forget() {
        int had = now.lookCount;
        now.lookCount = 0;
        guessesStale = true;
        return had;
    }

    public int odds(int cylinder, int kind) {
        if (cylinder < 0 || cylinder >= CYLINDERS || kind < 0 || kind > NO_FAULT) {
            return bad();
        }
        if (noGuesses()) {
            return no();
        }
        fraction.setShare(guesses.having(cylinder, kind), guesses.all);
        return 1;
    }

    public int two() {
        if (noGuesses()) {
            return no();
        }
        fraction.setShare(guesses.ofTwo(), guesses.all);
        return 1;
    }

    public int likeliest() {
        if (noGuesses()) {
            return no();
        }
        return guesses.greatest();
    }

    public int guess(int number, int cylinder) {
        if (number < 0 || number >= GUESSES || cylinder < 0 || cylinder >= CYLINDERS) {
            bad();
            return NO_GUESS;
        }
        return Guesses.faultIn(number, cylinder);
    }

    public int next(int minute) {
        if (noGuesses()) {
            return no();
        }
        if (!day.has(minute)) {
            return bad();
        }
        int best = 0;
        long least = Long.MAX_VALUE;
        for (int color = 0; color < COLORS; color++) {
            day.bring(minute, color, guesses.each);
            for (int cut = 0; cut <= NO_CUT; cut++) {
                guesses.addUp(cut);
                long share = guesses.greatestLevel(at(now.settings, THIN));
                if (share < least) {
                    least = share;
                    best = 10 * color + cut;
                }
            }
        }
        return best;
    }

    public int leaks(int tins) {
        if (tins < 0 || tins > 99999) {
            return bad();
        }
        if (noGuesses()) {
            return no();
        }
        day.bringBurnt(guesses.each);
        guesses.addUp(NO_CUT);
        fraction.setShare(guesses.below(tins), guesses.all);
        return 1;
    }

    public int hidden() {
        if (dayIsFaulty()) {
            return no();
        }
        day.heat(WARM_MOST);
        int bits = 0;
        for (int kind = 0; kind < KINDS; kind++) {
            if (day.givesNothing(faultOf(kind, DEPTHS))) {
                bits |= 1 << kind;
            }
        }
        day.heat(at(now.settings, FIRST));
        return bits;
    }

    // ---- how much longer, sheds

    public int gone(int deep, int load, int n) {
        if (!isDeep(deep) || load < 0 || load > LOAD_MOST || n < 0 || n > 20) {
            return bad();
        }
        fraction.setGone(deep, load, n);
        return 1;
    }

    public int harvest(int deep, int n, int w, int loss) {
        if (n < 0 || !isPlan(deep, n, w, loss)) {
            return bad();
        }
        plan.make(deep, n, w, loss);
        fraction.setShare(at(plan.best, deep), plan.scale);
        return 1;
    }

    public int drive(int deep, int n, int w, int loss) {
        if (n < 1 || !isPlan(deep, n, w, loss)) {
            return bad();
        }
        plan.make(deep, n, w, loss);
        return plan.firstLoad;
    }

    public int part(int cost, int hours, int a) {
        if (cost < 1 || cost > 99 || hours < 1 || hours > 99 || a < 0 || a > 10) {
            return bad();
        }
        if (now.partCount >= PARTS_MOST) {
            return full();
        }
        int place = now.partCount * PART_SIZE;
        set(now.parts, place, cost);
        set(now.parts, place + 1, hours);
        set(now.parts, place + 2, a);
        return now.partCount++;
    }

    public int takes(int coin) {
        if (coin < 0 || coin > 999) {
            return bad();
        }
        int best = 0;
        int bestWorth = 0;
        int bestCost = 0;
        for (int set = 1; set < 1 << now.partCount; set++) {
            int cost = now.costOf(set);
            int worth = now.worthOf(set);
            if (cost <= coin && (worth > bestWorth || worth == bestWorth && cost < bestCost)) {
                best = set;
                bestWorth = worth;
                bestCost = cost;
            }
        }
        return best;
    }

    // ---- what there is

    public int sign(int what) {
        if (what < 0 || what > 2) {
            return bad();
        }
        return signOf(what);
    }

    public int limb(int which, int i) {
        if (which < 0 || which > 1 || i < 0) {
            return bad();
        }
        if (i >= signOf(which + 1)) {
            return NONE;
        }
        return fraction.limbOf(which, i);
    }

    public int image(int i) {
        if (i < 0 || i >= images.length) {
            return bad();
        }
        Kept kept = images[i];
        if (kept == null) {
            kept = new Kept();
            images[i] = kept;
        }
        kept.become(now);
        return 1;
    }

    public int from(int i) {
        if (i < 0 || i >= images.length) {
            return bad();
        }
        Kept kept = images[i];
        if (kept == null) {
            return no();
        }
        now.become(kept);
        dayChanged();
        return 1;
    }

    public int status(int what) {
        if (what < 0 || what >= refused.length) {
            bad();
            return -1;
        }
        return refused[what];
    }

    public int count(int what) {
        if (what < 0 || what > 3) {
            return bad();
        }
        return now.countOf(what);
    }

    public long digest() {
        long h = 577;
        for (int what = 0; what <= 3; what++) {
            h = 31 * h + now.countOf(what);
        }
        h = mixed(h, now.text, now.length);
        h = mixed(h, now.settings, SETTINGS);
        h = mixed(h, now.priors, KINDS);
        h = mixed(h, now.motor, CYLINDERS);
        h = mixed(h, now.looks, now.lookCount * LOOK_SIZE);
        h = mixed(h, now.parts, now.partCount * PART_SIZE);
        for (int what = 0; what <= 2; what++) {
            h = 31 * h + signOf(what);
        }
        for (int which = 0; which <= 1; which++) {
            for (int i = 0; i < signOf(which + 1); i++) {
                h = 31 * h + fraction.limbOf(which, i);
            }
        }
        return h;
    }

    // ---- what is refused, and the bounds that calls share

    private int bad() {
        return refuse(0, BAD);
    }

    private int no() {
        return refuse(1, NO);
    }

    private int full() {
        return refuse(2, FULL);
    }

    private int refuse(int which, int answer) {
        set(refused, which, at(refused, which) + 1);
        return answer;
    }

    private static boolean isSetting(int what, int v) {
        boolean told = what >= 0 && what < SETTING_LEAST.length && what < SETTING_MOST.length;
        return told && v >= SETTING_LEAST[what] && v <= SETTING_MOST[what];
    }

    private static boolean isDeep(int deep) {
        return deep >= 1 && deep <= DEPTHS;
    }

    private static boolean isFault(int kind, int deep) {
        return kind >= 0 && kind < KINDS && isDeep(deep);
    }

    private static boolean isColor(int color) {
        return color >= 0 && color < COLORS;
    }

    private static boolean isCut(int cut) {
        return cut == NONE || cut >= 0 && cut < CYLINDERS;
    }

    private static boolean isPlan(int deep, int n, int w, int loss) {
        return isDeep(deep) && n <= 10 && w >= 0 && w <= 999 && loss >= 0 && loss <= 99999;
    }

    private static int faultOf(int kind, int deep) {
        return DEPTHS * kind + deep - 1;
    }

    // ---- what is worked out again only when something that it rests on has changed

    private void dayChanged() {
        dayStale = true;
        guessesStale = true;
    }

    private void readDay() {
        if (dayStale) {
            day.read(now.text, now.length);
            day.heat(at(now.settings, FIRST));
            dayStale = false;
        }
    }

    private boolean dayIsFaulty() {
        readDay();
        return day.wrongAt != NONE;
    }

    /** Whether there is nothing to ask of the guesses; when there is, they are weighed behind this. */
    private boolean noGuesses() {
        readDay();
        if (day.wrongAt != NONE) {
            return true;
        }
        if (guessesStale) {
            weighGuesses();
            guessesStale = false;
        }
        return guesses.all == 0;
    }

    private void weighGuesses() {
        guesses.begin(at(now.settings, SOUND), now.priors);
        for (int i = 0; i < now.lookCount; i++) {
            int place = i * LOOK_SIZE;
            int minute = at(now.looks, place);
            if (day.has(minute)) {
                day.bring(minute, at(now.looks, place + 1), guesses.each);
                guesses.addUp(at(now.looks, place + 2));
                guesses.weigh(at(now.looks, place + 3), at(now.settings, THIN), at(now.settings, RIGHT));
            }
        }
        guesses.total();
    }

    private int smokeOf(int minute, int color, int cut) {
        int sum = 0;
        for (int cylinder = 0; cylinder < CYLINDERS; cylinder++) {
            int fault = at(now.motor, cylinder);
            if (fault != NONE && cylinder != cut) {
                sum += day.given(fault, minute, color);
            }
        }
        return sum;
    }

    private int signOf(int what) {
        int above = Fraction.limbsOf(fraction.above);
        if (what == 0) {
            // nothing that is asked for comes to less than 0: a day's LOAD may always be 0
            return above > 0 ? 1 : 0;
        }
        return what == 1 ? above : Fraction.limbsOf(fraction.below);
    }

    private static long mixed(long start, int[] values, int many) {
        long h = start;
        for (int i = 0; i < many && i < values.length; i++) {
            h = 31 * h + values[i];
        }
        return h;
    }

    // ---- rows: a place is looked at before it is used

    private static int at(int[] row, int i) {
        return row != null && i >= 0 && i < row.length ? row[i] : 0;
    }

    private static long at(long[] row, int i) {
        return row != null && i >= 0 && i < row.length ? row[i] : 0;
    }

    private static void set(int[] row, int i, int v) {
        if (row != null && i >= 0 && i < row.length) {
            row[i] = v;
        }
    }

    private static void set(long[] row, int i, long v) {
        if (row != null && i >= 0 && i < row.length) {
            row[i] = v;
        }
    }

    private static void copy(int[] from, int[] to) {
        for (int i = 0; i < from.length && i < to.length; i++) {
            to[i] = from[i];
        }
    }

    /** All that an image keeps. */
    private static final class Kept {
        final int[] text = new int[TEXT_MOST];
        int length;
        final int[] settings = {0, 5, 8, 9};
        final int[] priors = {1, 1, 1, 1, 1, 1, 1};
        final int[] motor = {NONE, NONE, NONE, NONE};
        final int[] looks = new int[LOOKS_MOST * LOOK_SIZE];
        int lookCount;
        final int[] parts = new int[PARTS_MOST * PART_SIZE];
        int partCount;

        void become(Kept other) {
            copy(other.text, text);
            length = other.length;
            copy(other.settings, settings);
            copy(other.priors, priors);
            copy(other.motor, motor);
            copy(other.looks, looks);
            lookCount = other.lookCount;
            copy(other.parts, parts);
            partCount = other.partCount;
        }

        int countOf(int what) {
            switch (what) {
                case 0:
                    return length;
                case 1:
                    return lookCount;
                case 2:
                    return partCount;
                default:
                    return faultCount();
            }
        }

        private int faultCount() {
            int many = 0;
            for (int fault : motor) {
                if (fault != NONE) {
                    many++;
                }
            }
            return many;
        }

        int costOf(int set) {
            int sum = 0;
            for (int i = 0; i < partCount; i++) {
                if ((set >> i & 1) == 1) {
                    sum += at(parts, i * PART_SIZE);
                }
            }
            return sum;
        }

        int worthOf(int set) {
            int sum = 0;
            for (int i = 0; i < partCount; i++) {
                if ((set >> i & 1) == 1) {
                    sum += at(parts, i * PART_SIZE + 1) * at(parts, i * PART_SIZE + 2);
                }
            }
            return sum;
        }
    }

    /** THE DAY as its text tells it: its minutes, how warm each is, what each fault gives in each. */
    private static final class Day {
        private static final int STAND = 0, IDLE = 1, PULL = 2, COAST = 3;
        private static final int WORD = 0, STRENGTH = 1, SPAN = 2, END = 3;
        private static final int BLANK = 0, LETTER = 1, FIGURE = 2, OTHER = 3;
        private static final int SPAN_MOST = 60;

        /** Where the text can't go on, NONE if it is told well. */
        int wrongAt = NONE;
        int length;
        final int[] warmth = new int[MINUTES_MOST + 1];
        private final int[] items = new int[MINUTES_MOST];
        private final int[] loads = new int[MINUTES_MOST];
        /** What STEMMED burns of the oil that it holds: a row of minutes for each depth. */
        private final int[] oils = new int[DEPTHS * MINUTES_MOST];
        private int awaited;
        private int item;
        private int itemLoad;

        /** Reads the text up to the first token that can't stand; it must be heated behind this. */
        void read(int[] text, int textLength) {
            wrongAt = NONE;
            length = 0;
            awaited = WORD;
            for (int place = 0; place < textLength && wrongAt == NONE; place++) {
                if (beginsToken(text, place) && !takesToken(text, place, tokenEnd(text, place, textLength))) {
                    wrongAt = place;
                }
            }
            if (wrongAt == NONE && awaited != WORD) {
                wrongAt = textLength;
            }
            for (int deep = 1; deep <= DEPTHS; deep++) {
                seep(deep);
            }
        }

        private static int sortOf(int sign) {
            if (sign == ' ') {
                return BLANK;
            }
            if (sign >= 'a' && sign <= 'z') {
                return LETTER;
            }
            return sign >= '0' && sign <= '9' ? FIGURE : OTHER;
        }

        private static boolean beginsToken(int[] text, int place) {
            int sort = sortOf(at(text, place));
            if (sort == BLANK) {
                return false;
            }
            return sort == OTHER || place == 0 || sortOf(at(text, place - 1)) != sort;
        }

        private static int tokenEnd(int[] text, int place, int textLength) {
            int sort = sortOf(at(text, place));
            int end = place + 1;
            while (sort != OTHER && end < textLength && sortOf(at(text, end)) == sort) {
                end++;
            }
            return end;
        }

        private boolean takesToken(int[] text, int place, int end) {
            switch (awaited) {
                case WORD:
                    item = itemAt(text, place, end);
                    itemLoad = 0;
                    awaited = item == PULL ? STRENGTH : SPAN;
                    return item != NONE;
                case STRENGTH:
                    itemLoad = numberAt(text, place, end);
                    awaited = SPAN;
                    return itemLoad >= 1 && itemLoad <= LOAD_MOST;
                case SPAN:
                    awaited = END;
                    return lasts(numberAt(text, place, end));
                default:
                    awaited = WORD;
                    return at(text, place) == ';';
            }
        }

        private static int itemAt(int[] text, int place, int end) {
            if (isWord(text, place, end, "stand")) {
                return STAND;
            }
            if (isWord(text, place, end, "idle")) {
                return IDLE;
            }
            if (isWord(text, place, end, "pull")) {
                return PULL;
            }
            return isWord(text, place, end, "coast") ? COAST : NONE;
        }

        private static boolean isWord(int[] text, int place, int end, String word) {
            if (end - place != word.length()) {
                return false;
            }
            for (int i = 0; i < word.length(); i++) {
                if (at(text, place + i) != word.charAt(i)) {
                    return false;
                }
            }
            return true;
        }

        /** The number of one or two figures from place to end; NONE if it is no such number. */
        private static int numberAt(int[] text, int place, int end) {
            if (sortOf(at(text, place)) != FIGURE || end - place > 2) {
                return NONE;
            }
            int number = 0;
            for (int i = place; i < end; i++) {
                number = 10 * number + at(text, i) - '0';
            }
            return number;
        }

        /** Puts n minutes of the item to the day; not if n is not as told or they are too many. */
        private boolean lasts(int n) {
            if (n < 1 || n > SPAN_MOST || length + n > MINUTES_MOST) {
                return false;
            }
            for (int i = 0; i < n; i++) {
                set(items, length, item);
                set(loads, length, itemLoad);
                length++;
            }
            return true;
        }

        boolean has(int minute) {
            return minute >= 0 && minute < length;
        }

        /** Works out how warm each minute is, as warm as told ahead of the first one. */
        void heat(int first) {
            int warm = first;
            for (int minute = 0; minute < length; minute++) {
                set(warmth, minute, warm);
                if (at(items, minute) == STAND) {
                    warm = Math.max(warm - 1, 0);
                } else {
                    warm = Math.min(warm + 2 + at(loads, minute) / 3, WARM_MOST);
                }
            }
            set(warmth, length, warm);
        }

        /** Works out what STEMMED burns in each minute. */
        private void seep(int deep) {
            int held = 0;
            for (int minute = 0; minute < length; minute++) {
                int doing = at(items, minute);
                int more = doing == STAND ? deep : doing == COAST ? 3 * deep : 0;
                int most = doing == PULL ? 4 * deep : doing == IDLE ? 1 : 0;
                held = Math.min(held + more, OIL_MOST);
                int burnt = Math.min(held, most);
                held -= burnt;
                set(oils, oilPlace(deep, minute), burnt);
            }
        }

        private static int oilPlace(int deep, int minute) {
            return (deep - 1) * MINUTES_MOST + minute;
        }

        /** What a fault gives of a color in a minute. */
        int given(int fault, int minute, int color) {
            if (at(items, minute) == STAND) {
                return 0;
            }
            int kind = fault / DEPTHS;
            int deep = fault % DEPTHS + 1;
            int load = at(loads, minute);
            switch (color) {
                case BLUE:
                    return kind == STEMMED ? at(oils, oilPlace(deep, minute)) : blue(kind, deep, load);
                case SWEET:
                    return sweet(kind, deep, at(warmth, minute));
                case SHARP:
                    return kind == LATE ? sharp(deep, load, at(warmth, minute)) : 0;
                default:
                    return black(kind, deep, load);
            }
        }

        private static int blue(int kind, int deep, int load) {
            int ringed = deep * load;
            switch (kind) {
                case RINGED:
                    return ringed;
                case WORN:
                    return ringed / 2;
                default:
                    return 0;
            }
        }

        private static int sweet(int kind, int deep, int warm) {
            switch (kind) {
                case CRACKED:
                    return cracked(deep, warm);
                case WORN:
                    return warm < 30 ? 1 : 0;
                default:
                    return 0;
            }
        }

        private static int cracked(int deep, int warm) {
            return deep * (WARM_MOST - warm) / 20;
        }

        private static int sharp(int deep, int load, int warm) {
            return cracked(deep, warm) / 2 + (load == 0 ? deep : 0);
        }

        private static int black(int kind, int deep, int load) {
            switch (kind) {
                case OVER:
                    return over(deep, load);
                case STARVED:
                    return over(deep, load == 0 ? 0 : load + 2) + (load > 6 ? deep : 0);
                default:
                    return 0;
            }
        }

        private static int over(int deep, int load) {
            return load > 4 ? deep * (load - 4) : 0;
        }

        boolean givesNothing(int fault) {
            for (int minute = 0; minute < length; minute++) {
                for (int color = 0; color < COLORS; color++) {
                    if (given(fault, minute, color) > 0) {
                        return false;
                    }
                }
            }
            return true;
        }

        /** Brings what each fault gives of a color in a minute. */
        void bring(int minute, int color, int[] each) {
            for (int fault = 0; fault < each.length; fault++) {
                each[fault] = given(fault, minute, color);
            }
        }

        /** Brings what each fault burns of oil in all of the day. */
        void bringBurnt(int[] each) {
            for (int fault = 0; fault < each.length; fault++) {
                int sum = 0;
                for (int minute = 0; minute < length; minute++) {
                    sum += given(fault, minute, BLUE);
                }
                each[fault] = sum;
            }
        }
    }

    /** All guesses of no fault, of one and of two, by their numbers, with their weights. */
    private static final class Guesses {
        private static final int BOTH = FAULTS * FAULTS;

        long all;
        /** An amount that goes with each fault, brought from outside. */
        final int[] each = new int[FAULTS];
        private final long[] weights = new long[GUESSES];
        /** The amounts of a guess's faults together. */
        private final int[] amounts = new int[GUESSES];

        /** Sets the weights ahead of all looks. */
        void begin(int sound, int[] priors) {
            for (int fault = 0; fault < each.length; fault++) {
                each[fault] = at(priors, fault / DEPTHS) * (DEPTHS - fault % DEPTHS);
            }
            set(weights, 0, sound);
            for (int number = 1; number < weights.length; number++) {
                if (number < FIRST_OF_TWO) {
                    weights[number] = 9 * at(each, (number - 1) % FAULTS);
                } else {
                    int both = (number - FIRST_OF_TWO) % BOTH;
                    weights[number] = at(each, both / FAULTS) * at(each, both % FAULTS);
                }
            }
        }

        /** Adds up the amounts of each guess's faults, but for the cylinder that is cut. */
        void addUp(int cut) {
            set(amounts, 0, 0);
            for (int one = 0; one < CYLINDERS; one++) {
                for (int fault = 0; fault < each.length; fault++) {
                    set(amounts, 1 + one * FAULTS + fault, one == cut ? 0 : each[fault]);
                }
            }
            int pairs = 0;
            for (int one = 0; one < CYLINDERS; one++) {
                for (int other = one + 1; other < CYLINDERS; other++) {
                    addUpPair(FIRST_OF_TWO + pairs * BOTH, one == cut, other == cut);
                    pairs++;
                }
            }
        }

        private void addUpPair(int firstNumber, boolean oneCut, boolean otherCut) {
            int number = firstNumber;
            for (int ofOne : each) {
                for (int ofOther : each) {
                    set(amounts, number, (oneCut ? 0 : ofOne) + (otherCut ? 0 : ofOther));
                    number++;
                }
            }
        }

        private static int levelOf(int amount, int thin) {
            if (amount == 0) {
                return 0;
            }
            return amount <= thin ? 1 : 2;
        }

        /** Weighs a look at what was added up last. */
        void weigh(int level, int thin, int right) {
            for (int number = 0; number < weights.length; number++) {
                boolean agrees = levelOf(at(amounts, number), thin) == level;
                weights[number] *= agrees ? 2 * right : 10 - right;
            }
        }

        void total() {
            all = 0;
            for (long weight : weights) {
                all += weight;
            }
        }

        /** The fault that a guess puts in a cylinder, or NONE. */
        static int faultIn(int number, int cylinder) {
            if (number < 1) {
                return NONE;
            }
            if (number < FIRST_OF_TWO) {
                return (number - 1) / FAULTS == cylinder ? (number - 1) % FAULTS : NONE;
            }
            int pair = (number - FIRST_OF_TWO) / BOTH;
            int both = (number - FIRST_OF_TWO) % BOTH;
            // pairs 0 .. 2 are 0 1, 0 2, 0 3; 3 and 4 are 1 2, 1 3; 5 is 2 3
            int one = pair < 3 ? 0 : pair < 5 ? 1 : 2;
            int other = pair < 3 ? pair + 1 : pair < 5 ? pair - 1 : 3;
            if (cylinder == one) {
                return both / FAULTS;
            }
            return cylinder == other ? both % FAULTS : NONE;
        }

        /** The weight of all guesses by which a cylinder has a kind (or no fault). */
        long having(int cylinder, int kind) {
            long sum = 0;
            for (int number = 0; number < weights.length; number++) {
                int fault = faultIn(number, cylinder);
                int has = fault == NONE ? NO_FAULT : fault / DEPTHS;
                if (has == kind) {
                    sum += weights[number];
                }
            }
            return sum;
        }

        long ofTwo() {
            long sum = 0;
            for (int number = FIRST_OF_TWO; number < weights.length; number++) {
                sum += weights[number];
            }
            return sum;
        }

        int greatest() {
            int best = 0;
            long most = at(weights, 0);
            for (int number = 1; number < weights.length; number++) {
                if (weights[number] > most) {
                    best = number;
                    most = weights[number];
                }
            }
            return best;
        }

        /** The weight of the level that most guesses by weight tell, by the amounts added up last. */
        long greatestLevel(int thin) {
            long nothing = 0;
            long little = 0;
            for (int number = 0; number < weights.length; number++) {
                int level = levelOf(at(amounts, number), thin);
                if (level == 0) {
                    nothing += weights[number];
                } else if (level == 1) {
                    little += weights[number];
                }
            }
            return Math.max(Math.max(nothing, little), all - nothing - little);
        }

        /** The weight of all guesses whose amount is below a bound. */
        long below(int bound) {
            long sum = 0;
            for (int number = 0; number < weights.length; number++) {
                if (at(amounts, number) < bound) {
                    sum += weights[number];
                }
            }
            return sum;
        }
    }

    /** The best that days of driving can come to, as whole numbers over a scale. */
    private static final class Plan {
        private static final int GONE = DEPTHS + 1;

        /** By depth 1 .. 3, and GONE: what it comes to, times the scale. */
        final long[] best = new long[GONE + 1];
        /** 20 for each day: 20 by the power of 10 at most, so that all sums stay within a long. */
        long scale;
        int firstLoad;

        /** Works backwards, from the last of n days to the first. */
        void make(int deep, int n, int w, int loss) {
            Arrays.fill(best, 0);
            scale = 1;
            firstLoad = 0;
            for (int left = 1; left <= n; left++) {
                set(best, GONE, -loss * scale);
                // deeper ones still hold what is best behind this day while a lesser one asks for it
                for (int d = 1; d <= DEPTHS; d++) {
                    int load = bestLoad(d, w);
                    set(best, d, worth(d, w, load));
                    if (d == deep) {
                        firstLoad = load;
                    }
                }
                scale *= CHANCES;
            }
        }

        private long worth(int d, int w, int load) {
            return load * w * CHANCES * scale + load * at(best, d + 1) + (CHANCES - load) * at(best, d);
        }

        private int bestLoad(int d, int w) {
            int chosen = 0;
            long most = worth(d, w, 0);
            for (int load = 1; load <= LOAD_MOST; load++) {
                long comesTo = worth(d, w, load);
                if (comesTo > most) {
                    chosen = load;
                    most = comesTo;
                }
            }
            return chosen;
        }
    }

    /** THE FRACTION, never below 0, in limbs of 30 bits, the lowest first. */
    private static final class Fraction {
        /** 20 by the power of 20, the greatest number that comes up, has 87 bits. */
        private static final int LIMBS = 3, LIMB_BITS = 30;
        private static final long LIMB_MASK = (1L << LIMB_BITS) - 1;

        final long[] above = new long[LIMBS];
        final long[] below = new long[LIMBS];
        /** The chances of being 1, 2 and 3 deep, over what below holds. */
        private final long[] atOne = new long[LIMBS];
        private final long[] atTwo = new long[LIMBS];
        private final long[] atThree = new long[LIMBS];

        Fraction() {
            write(below, 1);
        }

        /** A part (0 or more) of a whole (above 0). */
        void setShare(long part, long whole) {
            long common = commonOf(whole, part);
            if (common > 0) {
                write(above, part / common);
                write(below, whole / common);
            }
        }

        private static long commonOf(long one, long other) {
            long a = one;
            long b = other;
            // Euclid's steps over longs are fewer than 100
            for (int i = 0; i < 100 && b != 0; i++) {
                long rest = a % b;
                a = b;
                b = rest;
            }
            return a;
        }

        private static void write(long[] limbs, long value) {
            for (int i = 0; i < limbs.length; i++) {
                limbs[i] = value >> (LIMB_BITS * i) & LIMB_MASK;
            }
        }

        /** The chance that a fault is gone behind n days: by 20 at each day, then lowered. */
        void setGone(int deep, int load, int n) {
            write(atOne, deep == 1 ? 1 : 0);
            write(atTwo, deep == 2 ? 1 : 0);
            write(atThree, deep == 3 ? 1 : 0);
            write(above, 0);
            write(below, 1);
            int stays = CHANCES - load;
            for (int day = 0; day < n; day++) {
                // from the deepest on, so that each takes what the lesser one was ahead of this day
                mix(above, CHANCES, atThree, load);
                mix(atThree, stays, atTwo, load);
                mix(atTwo, stays, atOne, load);
                mix(atOne, stays, atOne, 0);
                mix(below, CHANCES, below, 0);
            }
            // below is a power of 20: nothing but 2 and 5 divides it
            lower(2, 2 * n);
            lower(5, n);
        }

        /** Makes a number so many times itself and so many times another. */
        private static void mix(long[] into, int times, long[] other, int otherTimes) {
            long carry = 0;
            for (int i = 0; i < into.length; i++) {
                long sum = into[i] * times + at(other, i) * otherTimes + carry;
                into[i] = sum & LIMB_MASK;
                carry = sum >> LIMB_BITS;
            }
        }

        private void lower(int prime, int times) {
            for (int i = 0; i < times; i++) {
                if (restOf(above, prime) != 0 || restOf(below, prime) != 0) {
                    return;
                }
                divide(above, prime);
                divide(below, prime);
            }
        }

        private static long restOf(long[] limbs, int prime) {
            long rest = 0;
            for (int i = limbs.length - 1; i >= 0 && prime > 0; i--) {
                rest = ((rest << LIMB_BITS) + at(limbs, i)) % prime;
            }
            return rest;
        }

        private static void divide(long[] limbs, int prime) {
            long rest = 0;
            for (int i = limbs.length - 1; i >= 0 && prime > 0; i--) {
                long sum = (rest << LIMB_BITS) + at(limbs, i);
                set(limbs, i, sum / prime);
                rest = sum % prime;
            }
        }

        static int limbsOf(long[] limbs) {
            int many = limbs.length;
            while (many > 0 && at(limbs, many - 1) == 0) {
                many--;
            }
            return many;
        }

        int limbOf(int which, int i) {
            return (int) at(which == 0 ? above : below, i);
        }
    }
}
