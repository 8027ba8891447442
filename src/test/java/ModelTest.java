import java.util.Random;

/**
 * Runs of calls by a seeded chance, each answered by HenOracle and by PlainModel alike. Ordinary
 * arguments, those just out of bounds and those far out of them are mixed.
 */
public final class ModelTest {
    private static final int RUNS = 1500;
    private static final int CALLS = 512;
    private static final int[] FAR = {Integer.MIN_VALUE, Integer.MAX_VALUE, -2, -3, 100, 255, 256, 1000};
    private static final Checks CHECKS = new Checks();

    private final Random chance;
    private final int run;
    private final HenOracle x = new HenOracle();
    private final PlainModel m = new PlainModel();
    private int calls = 0;

    private ModelTest(int run) {
        this.run = run;
        this.chance = new Random(run);
    }

    public static void main(String[] args) {
        for (int run = 0; run < RUNS; run++) {
            new ModelTest(run).go();
        }
        CHECKS.end("ModelTest");
    }

    private void go() {
        tellYard();
        while (calls < CALLS) {
            int which = chance.nextInt(200);
            if (which < 2) {
                tellYard();
            } else if (which < 4) {
                tellAnything();
            } else if (which < 120) {
                callOfDays();
            } else {
                callOfAnswers();
            }
        }
    }

    private void due(String call, int got, int want) {
        calls++;
        CHECKS.due("run " + run + ", call " + calls + ": " + call, got, want);
    }

    /** A number of 0 .. max, now and then one that is not. */
    private int upTo(int max) {
        int which = chance.nextInt(40);
        if (which == 0) {
            return FAR[chance.nextInt(FAR.length)];
        }
        return which == 1 ? max + 1 : which == 2 ? -1 : chance.nextInt(max + 1);
    }

    private int aPlace() {
        return upTo(Math.max(0, m.count(0) - 1));
    }

    private int aHen() {
        return upTo(Math.max(0, m.count(1) - 1));
    }

    private int digit(int max) {
        return chance.nextInt(max + 1);
    }

    private void write(String text) {
        for (int i = 0; i < text.length() && calls < CALLS; i++) {
            due("write(" + text.charAt(i) + ")", x.write(text.charAt(i)), m.write(text.charAt(i)));
        }
    }

    private String aClause(String[] words) {
        String word = words[chance.nextInt(words.length)];
        if (word.equals("yard") || word.equals("calm")) {
            return word;
        }
        if (word.equals("place")) {
            return word + " " + digit(7) + " " + digit(9) + " " + digit(9);
        }
        if (word.equals("news")) {
            return word + " " + digit(13) + " " + digit(7);
        }
        return word + " " + digit(9);
    }

    private static final String[] WORDS = {"place", "place", "place", "news", "news", "layer", "broody", "pullet",
        "china"};
    private static final String[] ALL_WORDS = {"yard", "place", "news", "layer", "broody", "pullet", "china", "calm"};

    private void tellYard() {
        due("erase()", x.erase(), m.erase());
        StringBuilder text = new StringBuilder(chance.nextInt(3) == 0 ? "yard" : "calm");
        int clauses = chance.nextInt(15);
        for (int i = 0; i < clauses; i++) {
            text.append(chance.nextInt(8) == 0 ? " ; " : ";").append(aClause(WORDS));
        }
        write(text.toString());
        due("fault()", x.fault(), m.fault());
        due("yard()", x.yard(), m.yard());
    }

    private void tellAnything() {
        StringBuilder text = new StringBuilder(aClause(ALL_WORDS));
        int clauses = chance.nextInt(4);
        for (int i = 0; i < clauses; i++) {
            text.append(';').append(aClause(ALL_WORDS));
        }
        String spoilers = "; 0123456789az;A\t\n" + (char) 0 + (char) 200;
        int spoils = chance.nextInt(3);
        for (int i = 0; i < spoils; i++) {
            int at = chance.nextInt(text.length());
            char letter = spoilers.charAt(chance.nextInt(spoilers.length()));
            if (chance.nextBoolean()) {
                text.setCharAt(at, letter);
            } else {
                text.insert(at, letter);
            }
        }
        write(text.toString());
        due("fault() of '" + text + "'", x.fault(), m.fault());
        if (chance.nextBoolean()) {
            due("yard()", x.yard(), m.yard());
        }
    }

    private void callOfDays() {
        int p = aPlace();
        int o = aPlace();
        int w = upTo(9);
        int k = upTo(1);
        switch (chance.nextInt(14)) {
            case 0: case 1: case 2: case 3: case 4:
                due("day()", x.day(), m.day());
                break;
            case 5:
                due("thunder()", x.thunder(), m.thunder());
                break;
            case 6:
                due("straw(" + p + ", " + w + ")", x.straw(p, w), m.straw(p, w));
                break;
            case 7:
                due("move(" + p + ", " + o + ")", x.move(p, o), m.move(p, o));
                break;
            case 8:
                due("eat(" + p + ")", x.eat(p), m.eat(p));
                break;
            case 9: case 10:
                due("heed(" + p + ")", x.heed(p), m.heed(p));
                break;
            case 11:
                due("undo()", x.undo(), m.undo());
                break;
            case 12:
                due("keep(" + k + ")", x.keep(k), m.keep(k));
                break;
            default:
                due("back(" + k + ")", x.back(k), m.back(k));
        }
    }

    private void callOfAnswers() {
        int h = aHen();
        int p = aPlace();
        switch (chance.nextInt(18)) {
            case 0: case 1:
                askCount(upTo(12));
                break;
            case 2:
                askPlace(p, upTo(3));
                break;
            case 3: case 4:
                askHen(h, upTo(4));
                break;
            case 5:
                askAs(h, upTo(4));
                break;
            case 6:
                askLays(h, upTo(30));
                break;
            case 7:
                askRights(h, upTo(30));
                break;
            case 8:
                askAsk(upTo(30), upTo(1));
                break;
            case 9:
                askTrough(upTo(20));
                break;
            case 10:
                due("warmth(" + h + ", " + p + ")", x.warmth(h, p), m.warmth(h, p));
                break;
            case 11: case 12:
                see(h, upTo(14));
                break;
            case 13:
                forgetOrNews(upTo(13));
                break;
            case 14:
                due("kinds(" + h + ")", x.kinds(h), m.kinds(h));
                break;
            case 15:
                due("habits(" + h + ")", x.habits(h), m.habits(h));
                break;
            default:
                askFoxes(h, upTo(6), upTo(10), upTo(1));
        }
    }

    private void askCount(int what) {
        due("count(" + what + ")", x.count(what), m.count(what));
    }

    private void askPlace(int p, int what) {
        due("place(" + p + ", " + what + ")", x.place(p, what), m.place(p, what));
    }

    private void askHen(int h, int what) {
        due("hen(" + h + ", " + what + ")", x.hen(h, what), m.hen(h, what));
    }

    private void askAs(int h, int kind) {
        due("as(" + h + ", " + kind + ")", x.as(h, kind), m.as(h, kind));
    }

    private void askLays(int h, int n) {
        due("lays(" + h + ", " + n + ")", x.lays(h, n), m.lays(h, n));
    }

    private void askRights(int h, int n) {
        due("rights(" + h + ", " + n + ")", x.rights(h, n), m.rights(h, n));
    }

    private void askAsk(int n, int what) {
        due("ask(" + n + ", " + what + ")", x.ask(n, what), m.ask(n, what));
    }

    private void askTrough(int n) {
        due("trough(" + n + ")", x.trough(n), m.trough(n));
    }

    /** Mostly what will be so, or nothing would be left to tell kinds and habits by. */
    private void see(int h, int n) {
        int p = chance.nextInt(3) == 0 ? aPlace() : m.lays(h, n);
        due("seen(" + h + ", " + n + ", " + p + ")", x.seen(h, n, p), m.seen(h, n, p));
    }

    private void forgetOrNews(int day) {
        if (chance.nextBoolean()) {
            due("forget()", x.forget(), m.forget());
        } else {
            due("news(" + day + ")", x.news(day), m.news(day));
        }
    }

    private void askFoxes(int h, int n, int q, int part) {
        due("foxes(" + h + ", " + n + ", " + q + ", " + part + ")", x.foxes(h, n, q, part), m.foxes(h, n, q, part));
    }
}
