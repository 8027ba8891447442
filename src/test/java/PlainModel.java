import java.math.BigInteger;
import java.util.ArrayDeque;
import java.util.ArrayList;
import java.util.Arrays;
import java.util.Deque;
import java.util.HashMap;
import java.util.List;
import java.util.Map;
import java.util.regex.Matcher;
import java.util.regex.Pattern;

/**
 * The document once more, written without a thought of room or speed: whole yards are copied,
 * texts are cut by a pattern, every exchange of the trough is lived through. It is here so that
 * a slip of HenOracle's is not the slip of its test too.
 */
final class PlainModel {
    static final int NONE = -1, UNKNOWN = -2, OUTSIDE = -3, NOT = -4, FULL = -5;
    private static final Pattern TOKEN = Pattern.compile("[a-z]+|[0-9]+|[^ ]", Pattern.DOTALL);
    private static final List<String> KINDS = Arrays.asList("layer", "broody", "pullet", "china");

    private static final class Place {
        int toldMeaning, toldWarm, meaning, warm, light, egg = NONE;
        boolean eggRight;

        Place copy() {
            Place p = new Place();
            p.toldMeaning = toldMeaning;
            p.toldWarm = toldWarm;
            p.meaning = meaning;
            p.warm = warm;
            p.light = light;
            p.egg = egg;
            p.eggRight = eggRight;
            return p;
        }
    }

    private static final class Hen {
        String kind;
        int habit, last = NONE, right, wrong;

        Hen copy() {
            Hen h = new Hen();
            h.kind = kind;
            h.habit = habit;
            h.last = last;
            h.right = right;
            h.wrong = wrong;
            return h;
        }
    }

    private static final class World {
        List<Place> places = new ArrayList<>();
        List<Hen> hens = new ArrayList<>();
        Map<Integer, Integer> news = new HashMap<>();
        int day, eaten, heeded, fortune;
        boolean thunder;

        World copy() {
            World w = new World();
            for (Place p : places) {
                w.places.add(p.copy());
            }
            for (Hen h : hens) {
                w.hens.add(h.copy());
            }
            w.news.putAll(news);
            w.day = day;
            w.eaten = eaten;
            w.heeded = heeded;
            w.fortune = fortune;
            w.thunder = thunder;
            return w;
        }

        int liking(Hen h, int p) {
            Place place = places.get(p);
            int layer = place.warm + place.warm + place.light - (h.last == p ? h.habit : 0);
            if (h.kind.equals("layer")) {
                return layer;
            }
            if (h.kind.equals("broody")) {
                return layer + (h.last == p ? 9 : 0);
            }
            if (h.kind.equals("pullet")) {
                return (place.light + day * h.habit) % 10;
            }
            return h.habit % places.size() == p ? 1 : 0;
        }

        /** One DAY: for each HEN where she laid. */
        int[] pass() {
            int[] laid = new int[hens.size()];
            Arrays.fill(laid, NONE);
            for (Place p : places) {
                p.egg = NONE;
            }
            for (int h = 0; h < hens.size(); h++) {
                Hen hen = hens.get(h);
                if (thunder || hen.kind.equals("broody") && day % 2 == 1) {
                    continue;
                }
                for (int p = places.size() - 1; p >= 0; p--) {
                    boolean free = places.get(p).egg == NONE;
                    if (free && (laid[h] == NONE || liking(hen, p) >= liking(hen, laid[h]))) {
                        laid[h] = p;
                    }
                }
                if (laid[h] != NONE) {
                    Place at = places.get(laid[h]);
                    at.egg = h;
                    at.eggRight = news.getOrDefault(day % 14, NONE) == at.meaning;
                    hen.last = laid[h];
                    hen.right += at.eggRight ? 1 : 0;
                    hen.wrong += at.eggRight ? 0 : 1;
                }
            }
            thunder = false;
            day++;
            return laid;
        }

        int allRight() {
            return hens.stream().mapToInt(h -> h.right).sum();
        }
    }

    private final StringBuilder text = new StringBuilder();
    private World world = new World();
    private final Deque<World> past = new ArrayDeque<>();
    private final World[] kept = new World[2];
    private final List<int[]> seen = new ArrayList<>();

    // ---- the text

    /** Throws the place of the fault; answers how many clauses were done. */
    private static final class Fault extends Exception {
        private static final long serialVersionUID = 1L;
        final int at;

        Fault(int at) {
            super("fault at " + at);
            this.at = at;
        }
    }

    private static final class Tokens {
        final List<String> words = new ArrayList<>();
        final List<Integer> starts = new ArrayList<>();
        int next = 0;

        Tokens(String text) {
            Matcher m = TOKEN.matcher(text);
            while (m.find()) {
                words.add(m.group());
                starts.add(m.start());
            }
            words.add("");
            starts.add(text.length());
        }

        Fault faultHere() {
            return new Fault(starts.get(next));
        }

        int number(int max) throws Fault {
            String word = words.get(next);
            if (!word.matches("[0-9]{1,2}") || Integer.parseInt(word) > max) {
                throw faultHere();
            }
            next++;
            return Integer.parseInt(word);
        }
    }

    private int read(World w) throws Fault {
        Tokens t = new Tokens(text.toString());
        int clauses = 0;
        while (true) {
            readClause(t, w);
            clauses++;
            String between = t.words.get(t.next);
            if (between.isEmpty()) {
                return clauses;
            }
            if (!between.equals(";") || clauses == 14) {
                throw t.faultHere();
            }
            t.next++;
        }
    }

    private void readClause(Tokens t, World w) throws Fault {
        String word = t.words.get(t.next);
        boolean isHen = KINDS.contains(word);
        boolean known = isHen || Arrays.asList("yard", "place", "news", "calm").contains(word);
        if (!known || isHen && w.hens.size() == 5 || word.equals("place") && w.places.size() == 8) {
            throw t.faultHere();
        }
        t.next++;
        if (isHen) {
            Hen h = new Hen();
            h.kind = word;
            h.habit = t.number(9);
            w.hens.add(h);
        } else if (word.equals("place")) {
            Place p = new Place();
            p.toldMeaning = t.number(7);
            p.toldWarm = t.number(9);
            p.light = t.number(9);
            w.places.add(p);
        } else if (word.equals("news")) {
            int day = t.number(13);
            w.news.put(day, t.number(7));
        } else {
            w.news.clear();
            if (word.equals("yard")) {
                w.places.clear();
                w.hens.clear();
            }
        }
    }

    int write(int letter) {
        if (letter < 0 || letter > 255) {
            return OUTSIDE;
        }
        if (text.length() == 160) {
            return FULL;
        }
        text.append((char) letter);
        return text.length();
    }

    int erase() {
        int had = text.length();
        text.setLength(0);
        return had;
    }

    int fault() {
        try {
            read(world.copy());
            return NONE;
        } catch (Fault f) {
            return f.at;
        }
    }

    int yard() {
        World w = world.copy();
        int clauses;
        try {
            clauses = read(w);
        } catch (Fault f) {
            return NOT;
        }
        world = new World();
        world.news.putAll(w.news);
        for (Place told : w.places) {
            Place p = new Place();
            p.toldMeaning = p.meaning = told.toldMeaning;
            p.toldWarm = p.warm = told.toldWarm;
            p.light = told.light;
            world.places.add(p);
        }
        for (Hen told : w.hens) {
            Hen h = new Hen();
            h.kind = told.kind;
            h.habit = told.habit;
            world.hens.add(h);
        }
        text.setLength(0);
        past.clear();
        seen.clear();
        Arrays.fill(kept, null);
        return clauses;
    }

    // ---- what is told

    private boolean noPlace(int p) {
        return p < 0 || p >= world.places.size();
    }

    private boolean noHen(int h) {
        return h < 0 || h >= world.hens.size();
    }

    int place(int p, int what) {
        if (noPlace(p)) {
            return UNKNOWN;
        }
        Place x = world.places.get(p);
        int[] all = {x.meaning, x.warm, x.light, x.egg};
        return what < 0 || what > 3 ? OUTSIDE : all[what];
    }

    int hen(int h, int what) {
        if (noHen(h)) {
            return UNKNOWN;
        }
        Hen x = world.hens.get(h);
        int[] all = {KINDS.indexOf(x.kind), x.habit, x.last, x.right, x.wrong};
        return what < 0 || what > 4 ? OUTSIDE : all[what];
    }

    int news(int day) {
        return day < 0 || day > 13 ? OUTSIDE : world.news.getOrDefault(day, NONE);
    }

    int as(int h, int kind) {
        if (noHen(h)) {
            return UNKNOWN;
        }
        if (kind < 0 || kind > 4) {
            return OUTSIDE;
        }
        Map<String, List<Integer>> is = new HashMap<>();
        is.put("layer", Arrays.asList(0, 1));
        is.put("broody", Arrays.asList(0, 1, 2));
        is.put("pullet", Arrays.asList(0, 1, 3));
        is.put("china", Arrays.asList(0, 4));
        Hen x = world.hens.get(h);
        if (!is.get(x.kind).contains(kind) || world.places.isEmpty()) {
            return NOT;
        }
        return 9999 + world.liking(x, 0);
    }

    // ---- days

    private void remember() {
        past.addLast(world.copy());
        if (past.size() > 8) {
            past.removeFirst();
        }
    }

    private int eggs() {
        int bits = 0;
        for (int p = 0; p < world.places.size(); p++) {
            bits += world.places.get(p).egg == NONE ? 0 : 1 << p;
        }
        return bits;
    }

    int day() {
        if (world.day == 999) {
            return FULL;
        }
        remember();
        world.pass();
        return eggs();
    }

    int thunder() {
        remember();
        boolean did = world.thunder;
        world.thunder = true;
        return did ? 1 : 0;
    }

    int straw(int p, int w) {
        if (noPlace(p)) {
            return UNKNOWN;
        }
        if (w < 0 || w > 9) {
            return OUTSIDE;
        }
        remember();
        int was = world.places.get(p).warm;
        world.places.get(p).warm = w;
        return was;
    }

    private static void exchange(World w, int p, int o) {
        int meaning = w.places.get(p).meaning;
        w.places.get(p).meaning = w.places.get(o).meaning;
        w.places.get(o).meaning = meaning;
    }

    int move(int p, int o) {
        if (noPlace(p) || noPlace(o) || p == o) {
            return UNKNOWN;
        }
        remember();
        exchange(world, p, o);
        return world.places.get(p).meaning;
    }

    int eat(int p) {
        if (noPlace(p)) {
            return UNKNOWN;
        }
        if (world.places.get(p).egg == NONE) {
            return NOT;
        }
        remember();
        world.places.get(p).egg = NONE;
        return ++world.eaten;
    }

    int heed(int p) {
        if (noPlace(p)) {
            return UNKNOWN;
        }
        if (world.places.get(p).egg == NONE) {
            return NOT;
        }
        remember();
        world.places.get(p).egg = NONE;
        world.heeded++;
        world.fortune += world.places.get(p).eggRight ? 2 : -1;
        return 9999 + world.fortune;
    }

    int undo() {
        if (past.isEmpty()) {
            return NOT;
        }
        world = past.removeLast();
        return past.size();
    }

    int keep(int k) {
        if (k != 0 && k != 1) {
            return UNKNOWN;
        }
        kept[k] = world.copy();
        return world.day;
    }

    int back(int k) {
        if (k != 0 && k != 1) {
            return UNKNOWN;
        }
        if (kept[k] == null) {
            return NOT;
        }
        world = kept[k].copy();
        past.clear();
        return world.day;
    }

    // ---- foretold

    int lays(int h, int n) {
        if (noHen(h)) {
            return UNKNOWN;
        }
        if (n < 1 || n > 30) {
            return OUTSIDE;
        }
        World w = world.copy();
        int at = NONE;
        for (int i = 0; i < n; i++) {
            at = w.pass()[h];
        }
        return at;
    }

    int rights(int h, int n) {
        if (noHen(h)) {
            return UNKNOWN;
        }
        if (n < 0 || n > 30) {
            return OUTSIDE;
        }
        World w = world.copy();
        for (int i = 0; i < n; i++) {
            w.pass();
        }
        return w.hens.get(h).right - world.hens.get(h).right;
    }

    int ask(int n, int what) {
        if (n < 0 || n > 30 || what < 0 || what > 1) {
            return OUTSIDE;
        }
        int best = NONE;
        for (int h = world.hens.size() - 1; h >= 0; h--) {
            if (best == NONE || rights(h, n) >= rights(best, n)) {
                best = h;
            }
        }
        return what == 0 || best == NONE ? best : rights(best, n);
    }

    private int rightWith(int p, int o, int n) {
        World w = world.copy();
        if (p != o) {
            exchange(w, p, o);
        }
        for (int i = 0; i < n; i++) {
            w.pass();
        }
        return w.allRight() - world.allRight();
    }

    int trough(int n) {
        if (n < 1 || n > 20) {
            return OUTSIDE;
        }
        int most = rightWith(0, 0, n);
        int best = NONE;
        for (int p = 0; p < world.places.size(); p++) {
            for (int o = p + 1; o < world.places.size(); o++) {
                if (rightWith(p, o, n) > most) {
                    most = rightWith(p, o, n);
                    best = 10 * p + o;
                }
            }
        }
        return best;
    }

    int warmth(int h, int p) {
        if (noHen(h) || noPlace(p)) {
            return UNKNOWN;
        }
        int least = NONE;
        for (int warm = 9; warm >= 0; warm--) {
            World w = world.copy();
            w.places.get(p).warm = warm;
            if (w.pass()[h] == p) {
                least = warm;
            }
        }
        return least;
    }

    // ---- what was seen

    int seen(int h, int n, int p) {
        if (noHen(h) || p != NONE && noPlace(p)) {
            return UNKNOWN;
        }
        if (n < 1 || n > 14) {
            return OUTSIDE;
        }
        if (seen.size() == 6) {
            return FULL;
        }
        seen.add(new int[] {h, n, p});
        return seen.size();
    }

    int forget() {
        int had = seen.size();
        seen.clear();
        return had;
    }

    private boolean couldBe(int h, String kind, int habit) {
        for (int[] one : seen) {
            if (one[0] != h) {
                continue;
            }
            World w = world.copy();
            w.hens.get(h).kind = kind;
            w.hens.get(h).habit = habit;
            int at = NONE;
            for (int i = 0; i < one[1]; i++) {
                at = w.pass()[h];
            }
            if (at != one[2]) {
                return false;
            }
        }
        return true;
    }

    int kinds(int h) {
        if (noHen(h)) {
            return UNKNOWN;
        }
        int bits = 0;
        for (int k = 0; k < 4; k++) {
            bits += couldBe(h, KINDS.get(k), world.hens.get(h).habit) ? 1 << k : 0;
        }
        return bits;
    }

    int habits(int h) {
        if (noHen(h)) {
            return UNKNOWN;
        }
        int bits = 0;
        for (int k = 0; k < 10; k++) {
            bits += couldBe(h, world.hens.get(h).kind, k) ? 1 << k : 0;
        }
        return bits;
    }

    /** The odds over 10 to the n-th: either the fox comes ahead of this day, or she lays and lives on. */
    private BigInteger odds(World w, int h, int n, int q) {
        if (n == 0) {
            return BigInteger.ZERO;
        }
        int had = w.hens.get(h).right;
        w.pass();
        BigInteger whole = BigInteger.TEN.pow(n - 1);
        BigInteger behind = w.hens.get(h).right > had ? whole : odds(w, h, n - 1, q);
        return behind.multiply(BigInteger.valueOf(10 - q));
    }

    int foxes(int h, int n, int q, int part) {
        if (noHen(h)) {
            return UNKNOWN;
        }
        if (n < 0 || n > 6 || q < 0 || q > 10 || part < 0 || part > 1) {
            return OUTSIDE;
        }
        BigInteger above = odds(world.copy(), h, n, q);
        BigInteger below = BigInteger.TEN.pow(n);
        BigInteger both = above.gcd(below);
        return (part == 0 ? above : below).divide(both).intValueExact();
    }

    int count(int what) {
        if (what < 0 || what > 12) {
            return OUTSIDE;
        }
        int wrong = world.hens.stream().mapToInt(h -> h.wrong).sum();
        int[] all = {world.places.size(), world.hens.size(), world.day, eggs(), world.eaten, world.heeded,
            9999 + world.fortune, world.allRight(), wrong, world.thunder ? 1 : 0, seen.size(), past.size(),
            text.length()};
        return all[what];
    }
}
