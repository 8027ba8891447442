import java.util.Arrays;

/**
 * Hens that foretell by where they lay. Every capital word in the comments is one of the
 * document's terms; each public method stands under the document's own heading.
 */
public final class HenOracle {
    public static final int NONE = -1, UNKNOWN = -2, OUTSIDE = -3, NOT = -4, FULL = -5;

    private static final int PLACE_LIMIT = 8;
    private static final int HEN_LIMIT = 5;
    private static final int MEANING_MAX = 7;
    private static final int WARM_MAX = 9;
    private static final int LIGHT_MAX = 9;
    private static final int HABIT_MAX = 9;
    private static final int NEWS_DAYS = 14;

    private static final int TEXT_LIMIT = 160;
    private static final int CLAUSE_LIMIT = 14;
    private static final int LETTER_MAX = 255;

    private static final int LAST_DAY = 999;
    private static final int UNDO_LIMIT = 8;
    private static final int KEEP_LIMIT = 2;
    private static final int FORETELL_MAX = 30;
    private static final int TROUGH_MAX = 20;
    private static final int SEEN_LIMIT = 6;
    private static final int SEEN_DAY_MAX = 14;
    private static final int FOX_DAY_MAX = 6;
    private static final int TENTHS = 10;

    /** No two ints need more steps of Euclid's than this. */
    private static final int EUCLID_STEPS = 64;

    /** What FORTUNE gains by an EGG that is HEEDED. */
    private static final int WORTH_OF_RIGHT = 2, WORTH_OF_WRONG = -1;

    /** Keeps answers that may be below 0 apart from the refusals. */
    private static final int LIFT = 9999;

    private static final int LAYER = 0, BROODY = 1, PULLET = 2, CHINA = 3;

    /** KINDS as they are over one another have numbers of their own: HEN is 0, a KIND is one more. */
    private static final int AS_HEN = 0, AS_LAYER = 1, AS_CHINA = 4;

    private final Text text = new Text();
    private final Told told = new Told();
    private final Told draft = new Told();
    private final Yard now = new Yard();
    private final Yard foretold = new Yard();
    private final Yard[] past = new Yard[UNDO_LIMIT];
    private int undoable;
    private final Yard[] kept = new Yard[KEEP_LIMIT];
    private final boolean[] isKept = new boolean[KEEP_LIMIT];
    private final Sightings sightings = new Sightings();
    private final int[] hits = new int[PLACE_LIMIT * (MEANING_MAX + 1)];

    public HenOracle() {
        for (int i = 0; i < UNDO_LIMIT; i++) {
            past[i] = new Yard();
        }
        for (int k = 0; k < KEEP_LIMIT; k++) {
            kept[k] = new Yard();
        }
    }

    // ---- what is told

    public int write(int letter) {
        if (letter < 0 || letter > LETTER_MAX) {
            return OUTSIDE;
        }
        if (text.length >= TEXT_LIMIT) {
            return FULL;
        }
        text.append((char) letter);
        return text.length;
    }

    public int erase() {
        int had = text.length;
        text.length = 0;
        return had;
    }

    public int fault() {
        // What a text may still add hangs on what earlier texts told, so it is read over a draft of it.
        draft.copyFrom(told);
        return text.readInto(draft);
    }

    public int yard() {
        draft.copyFrom(told);
        if (text.readInto(draft) != NONE) {
            return NOT;
        }
        told.copyFrom(draft);
        text.length = 0;
        now.beginAs(told);
        sightings.size = 0;
        undoable = 0;
        for (int k = 0; k < KEEP_LIMIT; k++) {
            isKept[k] = false;
        }
        return text.clauses;
    }

    public int place(int place, int what) {
        if (!isPlace(place)) {
            return UNKNOWN;
        }
        switch (what) {
            case 0:
                return now.meaning[place];
            case 1:
                return now.warm[place];
            case 2:
                return told.light[place];
            case 3:
                return now.egg[place];
            default:
                return OUTSIDE;
        }
    }

    public int hen(int hen, int what) {
        if (!isHen(hen)) {
            return UNKNOWN;
        }
        switch (what) {
            case 0:
                return now.kind[hen];
            case 1:
                return now.habit[hen];
            case 2:
                return now.last[hen];
            case 3:
                return now.right[hen];
            case 4:
                return now.wrong[hen];
            default:
                return OUTSIDE;
        }
    }

    public int news(int day) {
        if (day < 0 || day >= NEWS_DAYS) {
            return OUTSIDE;
        }
        return told.news[day];
    }

    public int as(int hen, int kind) {
        if (!isHen(hen)) {
            return UNKNOWN;
        }
        if (kind < AS_HEN || kind > AS_CHINA) {
            return OUTSIDE;
        }
        if (!isUnder(now.kind[hen], kind) || told.places == 0) {
            return NOT;
        }
        // Whatever she is taken as, she LIKES as the hen she is: a HEN as such has no liking.
        return now.likes(told, hen, 0) + LIFT;
    }

    // ---- days

    public int day() {
        if (now.day >= LAST_DAY) {
            return FULL;
        }
        remember();
        now.passDay(told);
        return now.eggBits();
    }

    public int thunder() {
        remember();
        int already = now.thunders ? 1 : 0;
        now.thunders = true;
        return already;
    }

    public int straw(int place, int w) {
        if (!isPlace(place)) {
            return UNKNOWN;
        }
        if (w < 0 || w > WARM_MAX) {
            return OUTSIDE;
        }
        remember();
        int was = now.warm[place];
        now.warm[place] = w;
        return was;
    }

    public int move(int place, int other) {
        if (!isPlace(place) || !isPlace(other) || place == other) {
            return UNKNOWN;
        }
        remember();
        int meaning = now.meaning[place];
        now.meaning[place] = now.meaning[other];
        now.meaning[other] = meaning;
        return now.meaning[place];
    }

    public int eat(int place) {
        if (!isPlace(place)) {
            return UNKNOWN;
        }
        if (now.egg[place] == NONE) {
            return NOT;
        }
        remember();
        now.egg[place] = NONE;
        now.eaten++;
        return now.eaten;
    }

    public int heed(int place) {
        if (!isPlace(place)) {
            return UNKNOWN;
        }
        if (now.egg[place] == NONE) {
            return NOT;
        }
        remember();
        now.egg[place] = NONE;
        now.heeded++;
        now.fortune += now.worth[place];
        return now.fortune + LIFT;
    }

    public int undo() {
        if (undoable <= 0 || undoable > UNDO_LIMIT) {
            return NOT;
        }
        undoable--;
        now.copyFrom(past[undoable]);
        return undoable;
    }

    public int keep(int k) {
        if (k < 0 || k >= KEEP_LIMIT) {
            return UNKNOWN;
        }
        kept[k].copyFrom(now);
        isKept[k] = true;
        return now.day;
    }

    public int back(int k) {
        if (k < 0 || k >= KEEP_LIMIT) {
            return UNKNOWN;
        }
        if (!isKept[k]) {
            return NOT;
        }
        now.copyFrom(kept[k]);
        undoable = 0;
        return now.day;
    }

    // ---- foretold

    public int lays(int hen, int n) {
        if (!isHen(hen)) {
            return UNKNOWN;
        }
        if (n < 1 || n > FORETELL_MAX) {
            return OUTSIDE;
        }
        foretell(n);
        return foretold.placeOfEgg(hen);
    }

    public int rights(int hen, int n) {
        if (!isHen(hen)) {
            return UNKNOWN;
        }
        if (n < 0 || n > FORETELL_MAX) {
            return OUTSIDE;
        }
        foretell(n);
        return rightsForetold(hen);
    }

    public int ask(int n, int what) {
        if (n < 0 || n > FORETELL_MAX || what < 0 || what > 1) {
            return OUTSIDE;
        }
        foretell(n);
        int best = NONE;
        int most = NONE;
        for (int hen = 0; hen < told.hens; hen++) {
            if (rightsForetold(hen) > most) {
                most = rightsForetold(hen);
                best = hen;
            }
        }
        return what == 0 ? best : most;
    }

    public int trough(int n) {
        if (n < 1 || n > TROUGH_MAX) {
            return OUTSIDE;
        }
        tallyHits(n);
        int best = NONE;
        int most = 0;
        for (int place = 0; place < told.places; place++) {
            for (int other = place + 1; other < told.places; other++) {
                int gain = gainOfMove(place, other);
                if (gain > most) {
                    most = gain;
                    best = 10 * place + other;
                }
            }
        }
        return best;
    }

    public int warmth(int hen, int place) {
        if (!isHen(hen) || !isPlace(place)) {
            return UNKNOWN;
        }
        for (int w = 0; w <= WARM_MAX; w++) {
            foretold.copyFrom(now);
            foretold.warm[place] = w;
            foretold.passDay(told);
            if (foretold.egg[place] == hen) {
                return w;
            }
        }
        return NONE;
    }

    // ---- what was seen

    public int seen(int hen, int n, int place) {
        if (!isHen(hen) || place != NONE && !isPlace(place)) {
            return UNKNOWN;
        }
        if (n < 1 || n > SEEN_DAY_MAX) {
            return OUTSIDE;
        }
        if (sightings.size >= SEEN_LIMIT) {
            return FULL;
        }
        sightings.add(hen, n, place);
        return sightings.size;
    }

    public int forget() {
        int had = sightings.size;
        sightings.size = 0;
        return had;
    }

    public int kinds(int hen) {
        if (!isHen(hen)) {
            return UNKNOWN;
        }
        int bits = 0;
        for (int kind = LAYER; kind <= CHINA; kind++) {
            if (wouldBeSeen(hen, kind, now.habit[hen])) {
                bits |= 1 << kind;
            }
        }
        return bits;
    }

    public int habits(int hen) {
        if (!isHen(hen)) {
            return UNKNOWN;
        }
        int bits = 0;
        for (int habit = 0; habit <= HABIT_MAX; habit++) {
            if (wouldBeSeen(hen, now.kind[hen], habit)) {
                bits |= 1 << habit;
            }
        }
        return bits;
    }

    public int foxes(int hen, int n, int q, int part) {
        if (!isHen(hen)) {
            return UNKNOWN;
        }
        if (n < 0 || n > FOX_DAY_MAX || q < 0 || q > TENTHS || part < 0 || part > 1) {
            return OUTSIDE;
        }
        // She need only be spared up to the first RIGHT EGG; what comes later changes nothing.
        int days = daysToFirstRight(hen, n);
        int above = days == NONE ? 0 : power(TENTHS - q, days);
        int below = days == NONE ? 1 : power(TENTHS, days);
        int divisor = Math.max(1, commonDivisor(above, below));
        return part == 0 ? above / divisor : below / divisor;
    }

    public int count(int what) {
        switch (what) {
            case 0:
                return told.places;
            case 1:
                return told.hens;
            case 2:
                return now.day;
            case 3:
                return now.eggBits();
            case 4:
                return now.eaten;
            case 5:
                return now.heeded;
            case 6:
                return now.fortune + LIFT;
            case 7:
                return sum(now.right);
            case 8:
                return sum(now.wrong);
            case 9:
                return now.thunders ? 1 : 0;
            case 10:
                return sightings.size;
            case 11:
                return undoable;
            case 12:
                return text.length;
            default:
                return OUTSIDE;
        }
    }

    // ---- helpers

    private boolean isPlace(int place) {
        return place >= 0 && place < told.places;
    }

    private boolean isHen(int hen) {
        return hen >= 0 && hen < told.hens;
    }

    private static boolean isUnder(int kind, int taken) {
        if (taken == AS_HEN) {
            return true;
        }
        if (taken == AS_LAYER) {
            return kind != CHINA;
        }
        return taken == kind + 1;
    }

    /** Called ahead of every change that undo() takes back. */
    private void remember() {
        if (undoable >= UNDO_LIMIT) {
            dropOldest();
        }
        past[undoable].copyFrom(now);
        undoable++;
    }

    private void dropOldest() {
        Yard oldest = past[0];
        for (int i = 1; i < UNDO_LIMIT; i++) {
            past[i - 1] = past[i];
        }
        past[UNDO_LIMIT - 1] = oldest;
        undoable = UNDO_LIMIT - 1;
    }

    private void foretell(int n) {
        foretold.copyFrom(now);
        for (int i = 0; i < n; i++) {
            foretold.passDay(told);
        }
    }

    private int rightsForetold(int hen) {
        return foretold.right[hen] - now.right[hen];
    }

    /**
     * No hen looks at MEANINGS when she lays, so one run of days tells for every exchange:
     * how often an EGG came to each place on a day with each piece of NEWS.
     */
    private void tallyHits(int n) {
        Arrays.fill(hits, 0);
        foretold.copyFrom(now);
        for (int i = 0; i < n; i++) {
            int newsToday = told.newsOf(foretold.day);
            foretold.passDay(told);
            if (newsToday != NONE) {
                tallyEggs(newsToday);
            }
        }
    }

    private void tallyEggs(int newsToday) {
        for (int place = 0; place < told.places; place++) {
            if (foretold.egg[place] != NONE) {
                hits[hitIndex(place, newsToday)]++;
            }
        }
    }

    private int gainOfMove(int place, int other) {
        int mine = now.meaning[place];
        int its = now.meaning[other];
        return hits[hitIndex(place, its)] + hits[hitIndex(other, mine)]
            - hits[hitIndex(place, mine)] - hits[hitIndex(other, its)];
    }

    private static int hitIndex(int place, int meaning) {
        return place * (MEANING_MAX + 1) + meaning;
    }

    private boolean wouldBeSeen(int hen, int kind, int habit) {
        int lastDay = sightings.lastDayOf(hen);
        foretold.copyFrom(now);
        foretold.kind[hen] = kind;
        foretold.habit[hen] = habit;
        for (int n = 1; n <= lastDay; n++) {
            foretold.passDay(told);
            if (!sightings.agree(hen, n, foretold.placeOfEgg(hen))) {
                return false;
            }
        }
        return true;
    }

    private int daysToFirstRight(int hen, int n) {
        foretold.copyFrom(now);
        for (int days = 1; days <= n; days++) {
            foretold.passDay(told);
            if (rightsForetold(hen) > 0) {
                return days;
            }
        }
        return NONE;
    }

    private static int power(int base, int exponent) {
        int result = 1;
        for (int i = 0; i < exponent; i++) {
            result *= base;
        }
        return result;
    }

    /** At least 1, as below is never 0. */
    private static int commonDivisor(int above, int below) {
        int a = below;
        int b = above;
        for (int i = 0; i < EUCLID_STEPS && b > 0; i++) {
            int rest = a % b;
            a = b;
            b = rest;
        }
        return a;
    }

    private static int sum(int[] row) {
        int total = 0;
        for (int i = 0; i < row.length; i++) {
            total += row[i];
        }
        return total;
    }

    /** What the texts told; no day changes it. */
    private static final class Told {
        int places;
        int hens;
        final int[] meaning = new int[PLACE_LIMIT];
        final int[] warm = new int[PLACE_LIMIT];
        final int[] light = new int[PLACE_LIMIT];
        final int[] kind = new int[HEN_LIMIT];
        final int[] habit = new int[HEN_LIMIT];
        final int[] news = new int[NEWS_DAYS];

        Told() {
            Arrays.fill(news, NONE);
        }

        void clear() {
            places = 0;
            hens = 0;
            clearNews();
        }

        void clearNews() {
            Arrays.fill(news, NONE);
        }

        void addPlace(int itsMeaning, int itsWarm, int itsLight) {
            if (places >= PLACE_LIMIT) {
                return;
            }
            meaning[places] = itsMeaning;
            warm[places] = itsWarm;
            light[places] = itsLight;
            places++;
        }

        void addHen(int herKind, int herHabit) {
            if (hens >= HEN_LIMIT) {
                return;
            }
            kind[hens] = herKind;
            habit[hens] = herHabit;
            hens++;
        }

        int newsOf(int day) {
            return news[Math.floorMod(day, NEWS_DAYS)];
        }

        void copyFrom(Told other) {
            places = other.places;
            hens = other.hens;
            System.arraycopy(other.meaning, 0, meaning, 0, PLACE_LIMIT);
            System.arraycopy(other.warm, 0, warm, 0, PLACE_LIMIT);
            System.arraycopy(other.light, 0, light, 0, PLACE_LIMIT);
            System.arraycopy(other.kind, 0, kind, 0, HEN_LIMIT);
            System.arraycopy(other.habit, 0, habit, 0, HEN_LIMIT);
            System.arraycopy(other.news, 0, news, 0, NEWS_DAYS);
        }
    }

    /**
     * All that days change. KIND and HABIT are here too, so that a hen can be taken for
     * another one in a foretold yard alone.
     */
    private static final class Yard {
        final int[] meaning = new int[PLACE_LIMIT];
        final int[] warm = new int[PLACE_LIMIT];
        final int[] egg = new int[PLACE_LIMIT];
        final int[] worth = new int[PLACE_LIMIT];
        final int[] kind = new int[HEN_LIMIT];
        final int[] habit = new int[HEN_LIMIT];
        final int[] last = new int[HEN_LIMIT];
        final int[] right = new int[HEN_LIMIT];
        final int[] wrong = new int[HEN_LIMIT];
        int day;
        boolean thunders;
        int eaten;
        int heeded;
        int fortune;

        Yard() {
            Arrays.fill(egg, NONE);
            Arrays.fill(last, NONE);
        }

        void beginAs(Told told) {
            System.arraycopy(told.meaning, 0, meaning, 0, PLACE_LIMIT);
            System.arraycopy(told.warm, 0, warm, 0, PLACE_LIMIT);
            System.arraycopy(told.kind, 0, kind, 0, HEN_LIMIT);
            System.arraycopy(told.habit, 0, habit, 0, HEN_LIMIT);
            Arrays.fill(egg, NONE);
            Arrays.fill(last, NONE);
            Arrays.fill(right, 0);
            Arrays.fill(wrong, 0);
            day = 0;
            thunders = false;
            eaten = 0;
            heeded = 0;
            fortune = 0;
        }

        void copyFrom(Yard other) {
            System.arraycopy(other.meaning, 0, meaning, 0, PLACE_LIMIT);
            System.arraycopy(other.warm, 0, warm, 0, PLACE_LIMIT);
            System.arraycopy(other.egg, 0, egg, 0, PLACE_LIMIT);
            System.arraycopy(other.worth, 0, worth, 0, PLACE_LIMIT);
            System.arraycopy(other.kind, 0, kind, 0, HEN_LIMIT);
            System.arraycopy(other.habit, 0, habit, 0, HEN_LIMIT);
            System.arraycopy(other.last, 0, last, 0, HEN_LIMIT);
            System.arraycopy(other.right, 0, right, 0, HEN_LIMIT);
            System.arraycopy(other.wrong, 0, wrong, 0, HEN_LIMIT);
            day = other.day;
            thunders = other.thunders;
            eaten = other.eaten;
            heeded = other.heeded;
            fortune = other.fortune;
        }

        void passDay(Told told) {
            Arrays.fill(egg, NONE);
            for (int hen = 0; hen < told.hens; hen++) {
                int place = laysToday(hen) ? favourite(told, hen) : NONE;
                if (place != NONE) {
                    layEgg(hen, place, told.newsOf(day));
                }
            }
            thunders = false;
            day++;
        }

        private boolean laysToday(int hen) {
            return !thunders && (kind[hen] != BROODY || day % 2 == 0);
        }

        private int favourite(Told told, int hen) {
            int best = NONE;
            int most = 0;
            for (int place = 0; place < told.places; place++) {
                if (egg[place] == NONE) {
                    int liking = likes(told, hen, place);
                    if (best == NONE || liking > most) {
                        best = place;
                        most = liking;
                    }
                }
            }
            return best;
        }

        private void layEgg(int hen, int place, int newsToday) {
            boolean isRight = newsToday == meaning[place];
            egg[place] = hen;
            last[hen] = place;
            // Settled as she lays: a trough that is moved later does not change an EGG that was RIGHT.
            worth[place] = isRight ? WORTH_OF_RIGHT : WORTH_OF_WRONG;
            if (isRight) {
                right[hen]++;
            } else {
                wrong[hen]++;
            }
        }

        int likes(Told told, int hen, int place) {
            int asLayer = 2 * warm[place] + told.light[place];
            boolean again = last[hen] == place;
            switch (kind[hen]) {
                case LAYER:
                    return again ? asLayer - habit[hen] : asLayer;
                case BROODY:
                    return again ? asLayer - habit[hen] + 9 : asLayer;
                case PULLET:
                    return (told.light[place] + day * habit[hen]) % 10;
                default:
                    return told.places > 0 && place == habit[hen] % told.places ? 1 : 0;
            }
        }

        int placeOfEgg(int hen) {
            for (int place = 0; place < PLACE_LIMIT; place++) {
                if (egg[place] == hen) {
                    return place;
                }
            }
            return NONE;
        }

        int eggBits() {
            int bits = 0;
            for (int place = 0; place < PLACE_LIMIT; place++) {
                if (egg[place] != NONE) {
                    bits |= 1 << place;
                }
            }
            return bits;
        }
    }

    /** What is SEEN, each row of it told from now, whenever now is. */
    private static final class Sightings {
        final int[] ofHen = new int[SEEN_LIMIT];
        final int[] onDay = new int[SEEN_LIMIT];
        final int[] atPlace = new int[SEEN_LIMIT];
        int size;

        void add(int hen, int n, int place) {
            if (size >= SEEN_LIMIT) {
                return;
            }
            ofHen[size] = hen;
            onDay[size] = n;
            atPlace[size] = place;
            size++;
        }

        int lastDayOf(int hen) {
            int latest = 0;
            for (int i = 0; i < size; i++) {
                if (ofHen[i] == hen) {
                    latest = Math.max(latest, onDay[i]);
                }
            }
            return latest;
        }

        boolean agree(int hen, int n, int place) {
            for (int i = 0; i < size; i++) {
                if (ofHen[i] == hen && onDay[i] == n && atPlace[i] != place) {
                    return false;
                }
            }
            return true;
        }
    }

    /** THE TEXT, and the TOKEN of it that is being read: letters start .. end - 1. */
    private static final class Text {
        final char[] letters = new char[TEXT_LIMIT];
        int length;
        int clauses;
        private int start;
        private int end;

        void append(char letter) {
            if (length >= TEXT_LIMIT) {
                return;
            }
            letters[length] = letter;
            length++;
        }

        /** Does the CLAUSES upon a draft as they are read; answers the place of the FAULT, or NONE. */
        int readInto(Told draft) {
            clauses = 0;
            end = 0;
            for (int i = 0; i < CLAUSE_LIMIT; i++) {
                if (!readClause(draft)) {
                    return start;
                }
                clauses++;
                nextToken();
                if (start >= length) {
                    return NONE;
                }
                if (letters[start] != ';') {
                    return start;
                }
            }
            // This ; would have a fifteenth CLAUSE behind it.
            return start;
        }

        /** Where it answers false, the TOKEN that was read last cannot stand there. */
        private boolean readClause(Told draft) {
            nextToken();
            if (reads("yard")) {
                draft.clear();
                return true;
            }
            if (reads("calm")) {
                draft.clearNews();
                return true;
            }
            if (reads("place")) {
                return draft.places < PLACE_LIMIT && readPlace(draft);
            }
            if (reads("news")) {
                return readNews(draft);
            }
            int kind = kindRead();
            return kind != NONE && draft.hens < HEN_LIMIT && readHen(draft, kind);
        }

        private boolean readPlace(Told draft) {
            int meaning = nextNumber(MEANING_MAX);
            if (meaning == NONE) {
                return false;
            }
            int warm = nextNumber(WARM_MAX);
            if (warm == NONE) {
                return false;
            }
            int light = nextNumber(LIGHT_MAX);
            if (light == NONE) {
                return false;
            }
            draft.addPlace(meaning, warm, light);
            return true;
        }

        private boolean readNews(Told draft) {
            int day = nextNumber(NEWS_DAYS - 1);
            if (day == NONE) {
                return false;
            }
            int meaning = nextNumber(MEANING_MAX);
            if (meaning == NONE) {
                return false;
            }
            draft.news[day] = meaning;
            return true;
        }

        private boolean readHen(Told draft, int kind) {
            int habit = nextNumber(HABIT_MAX);
            if (habit == NONE) {
                return false;
            }
            draft.addHen(kind, habit);
            return true;
        }

        private int kindRead() {
            if (reads("layer")) {
                return LAYER;
            }
            if (reads("broody")) {
                return BROODY;
            }
            if (reads("pullet")) {
                return PULLET;
            }
            return reads("china") ? CHINA : NONE;
        }

        private boolean reads(String word) {
            if (end - start != word.length()) {
                return false;
            }
            for (int i = 0; i < word.length(); i++) {
                if (letters[start + i] != word.charAt(i)) {
                    return false;
                }
            }
            return true;
        }

        /** The next TOKEN as a number 0 .. max; NONE: it is no such number. */
        private int nextNumber(int max) {
            nextToken();
            int digits = end - start;
            if (digits < 1 || digits > 2 || !isDigit(letters[start])) {
                return NONE;
            }
            int number = 0;
            for (int i = start; i < end; i++) {
                number = 10 * number + (letters[i] - '0');
            }
            return number <= max ? number : NONE;
        }

        /** At the end of THE TEXT the TOKEN is empty and begins at its length. */
        private void nextToken() {
            start = end;
            while (start < length && letters[start] == ' ') {
                start++;
            }
            end = start;
            if (start >= length) {
                return;
            }
            end++;
            if (isSmall(letters[start])) {
                while (end < length && isSmall(letters[end])) {
                    end++;
                }
            } else if (isDigit(letters[start])) {
                while (end < length && isDigit(letters[end])) {
                    end++;
                }
            }
        }

        private static boolean isSmall(char letter) {
            return letter >= 'a' && letter <= 'z';
        }

        private static boolean isDigit(char letter) {
            return letter >= '0' && letter <= '9';
        }
    }
}
