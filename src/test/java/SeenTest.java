/** Promises 24 to 29: what was seen, foxes, and what is counted. */
public final class SeenTest {
    private static final Checks CHECKS = new Checks();
    /** The LAYER goes to and fro: 6 against 4, less 3 where she laid last. */
    private static final String TO_AND_FRO = "place 1 3 0;place 2 2 0;layer 3;news 0 1;news 1 1";

    public static void main(String[] args) {
        seen();
        seenRefused();
        forget();
        kinds();
        kindsOfOne();
        habits();
        fromNow();
        foxesEdges();
        foxesLater();
        foxesRefused();
        count();
        CHECKS.end("SeenTest");
    }

    private static void due(String call, int got, int want) {
        CHECKS.due(call, got, want);
    }

    private static void seen() {
        HenOracle x = Checks.yardOf(TO_AND_FRO);
        due("seen(0, 1, 0)", x.seen(0, 1, 0), 1);
        due("seen(0, 1, 0) again", x.seen(0, 1, 0), 2);
        due("seen(0, 14, 1)", x.seen(0, 14, 1), 3);
        due("seen(0, 3, NONE)", x.seen(0, 3, HenOracle.NONE), 4);
        due("seen(0, 4, 0)", x.seen(0, 4, 0), 5);
        due("seen(0, 5, 0)", x.seen(0, 5, 0), 6);
        due("count(10)", x.count(10), 6);
        String before = Checks.allOf(x);
        CHECKS.refused("a seventh", x, before, x.seen(0, 6, 0), HenOracle.FULL);
        CHECKS.refused("a seventh, outside", x, before, x.seen(0, 15, 0), HenOracle.OUTSIDE);
        CHECKS.refused("a seventh, unknown", x, before, x.seen(1, 15, 0), HenOracle.UNKNOWN);
    }

    private static void seenRefused() {
        HenOracle x = Checks.yardOf(TO_AND_FRO);
        String before = Checks.allOf(x);
        CHECKS.refused("seen(1, 1, 0)", x, before, x.seen(1, 1, 0), HenOracle.UNKNOWN);
        CHECKS.refused("seen(-1, 1, 0)", x, before, x.seen(-1, 1, 0), HenOracle.UNKNOWN);
        CHECKS.refused("seen(0, 1, 2)", x, before, x.seen(0, 1, 2), HenOracle.UNKNOWN);
        CHECKS.refused("seen(0, 1, -2)", x, before, x.seen(0, 1, -2), HenOracle.UNKNOWN);
        CHECKS.refused("seen(0, 0, 2)", x, before, x.seen(0, 0, 2), HenOracle.UNKNOWN);
        CHECKS.refused("seen(0, 0, 0)", x, before, x.seen(0, 0, 0), HenOracle.OUTSIDE);
        CHECKS.refused("seen(0, 15, NONE)", x, before, x.seen(0, 15, -1), HenOracle.OUTSIDE);
    }

    private static void forget() {
        HenOracle x = Checks.yardOf(TO_AND_FRO);
        due("forget() of nothing", x.forget(), 0);
        x.seen(0, 1, 1);
        x.seen(0, 2, 1);
        due("kinds ahead of forget()", x.kinds(0), 8);
        due("forget()", x.forget(), 2);
        due("count(10)", x.count(10), 0);
        due("kinds behind forget()", x.kinds(0), 15);
        due("forget() again", x.forget(), 0);
        due("seen anew", x.seen(0, 1, 0), 1);
    }

    private static void kinds() {
        // On DAY 0: LAYER and BROODY at 1 (18), PULLET at 0 (2), CHINA at 1 (3 by 2 places).
        // On DAY 1: LAYER at 1 (15 against 2), BROODY nowhere, PULLET at 0 (5 against 3), CHINA at 1.
        int[][] due = {{1, 1, 11}, {1, 0, 4}, {1, -1, 0}, {2, 1, 9}, {2, 0, 4}, {2, -1, 2}};
        for (int[] row : due) {
            HenOracle x = Checks.yardOf("place 0 0 2;place 0 9 0;layer 3");
            due("kinds, nothing seen", x.kinds(0), 15);
            x.seen(0, row[0], row[1]);
            due("kinds, seen " + row[1] + " on day " + row[0], x.kinds(0), row[2]);
        }
        HenOracle x = Checks.yardOf("place 0 0 2;place 0 9 0;layer 3");
        x.seen(0, 1, 1);
        x.seen(0, 2, 1);
        due("kinds by two", x.kinds(0), 9);
        x.seen(0, 2, 0);
        due("kinds by what cannot be", x.kinds(0), 0);
        due("kinds(1)", x.kinds(1), HenOracle.UNKNOWN);
        due("kinds(-1)", x.kinds(-1), HenOracle.UNKNOWN);
        due("her kind is as told", x.hen(0, 0), 0);
    }

    private static void kindsOfOne() {
        HenOracle x = Checks.yardOf("place 0 0 2;place 0 9 0;china 1;layer 3");
        x.seen(1, 1, 1);
        due("what is seen of another one", x.kinds(0), 15);
        due("kinds of one behind another", x.kinds(1), 0);
        due("habits of one behind another", x.habits(1), 0);
        x.forget();
        x.seen(1, 2, HenOracle.NONE);
        due("kinds of a second one", x.kinds(1), 2);
        due("habits of a second one", x.habits(1), 0);
    }

    private static void habits() {
        HenOracle pullet = Checks.yardOf("place 0 9 2;place 0 0 5;pullet 3");
        due("habits, nothing seen", pullet.habits(0), 1023);
        pullet.seen(0, 2, 0);
        due("habits of a pullet", pullet.habits(0), 224);
        pullet.forget();
        pullet.seen(0, 2, 1);
        due("habits of a pullet elsewhere", pullet.habits(0), 1023 - 224);
        pullet.seen(0, 1, 0);
        due("habits by what cannot be", pullet.habits(0), 0);
        due("her habit is as told", pullet.hen(0, 1), 3);
        HenOracle layer = Checks.yardOf(TO_AND_FRO);
        layer.seen(0, 2, 1);
        due("habits of a layer", layer.habits(0), 1016);
        HenOracle china = Checks.yardOf("place 0 0 0;place 0 0 0;place 0 0 0;place 0 0 0;china 0");
        china.seen(0, 14, 1);
        due("habits of a china one", china.habits(0), 2 + 32 + 512);
        due("habits(1)", china.habits(1), HenOracle.UNKNOWN);
        due("habits(-1)", china.habits(-1), HenOracle.UNKNOWN);
    }

    private static void fromNow() {
        HenOracle x = Checks.yardOf(TO_AND_FRO);
        x.seen(0, 1, 0);
        due("habits on day 0", x.habits(0), 1023);
        x.day();
        due("habits on day 1, by her last egg", x.habits(0), 7);
        due("kinds on day 1", x.kinds(0), 4);
        x.undo();
        due("habits on day 0 again", x.habits(0), 1023);
        x.thunder();
        due("habits in thunder", x.habits(0), 0);
    }

    private static void dueFoxes(HenOracle x, int n, int q, int above, int below) {
        due("foxes(0, " + n + ", " + q + ", 0)", x.foxes(0, n, q, 0), above);
        due("foxes(0, " + n + ", " + q + ", 1)", x.foxes(0, n, q, 1), below);
    }

    private static void foxesEdges() {
        HenOracle x = Checks.yardOf(TO_AND_FRO);
        dueFoxes(x, 0, 0, 0, 1);
        dueFoxes(x, 0, 5, 0, 1);
        dueFoxes(x, 1, 0, 1, 1);
        dueFoxes(x, 1, 5, 1, 2);
        dueFoxes(x, 1, 3, 7, 10);
        dueFoxes(x, 1, 10, 0, 1);
        dueFoxes(x, 6, 5, 1, 2);
        x.thunder();
        dueFoxes(x, 1, 0, 0, 1);
    }

    private static void foxesLater() {
        HenOracle second = Checks.yardOf("place 1 3 0;layer 0;news 1 1");
        dueFoxes(second, 1, 5, 0, 1);
        dueFoxes(second, 2, 5, 1, 4);
        dueFoxes(second, 2, 3, 49, 100);
        dueFoxes(second, 6, 2, 16, 25);
        HenOracle sixth = Checks.yardOf("place 1 3 0;layer 0;news 5 1");
        dueFoxes(sixth, 5, 0, 0, 1);
        dueFoxes(sixth, 6, 0, 1, 1);
        dueFoxes(sixth, 6, 1, 531441, 1000000);
        dueFoxes(sixth, 6, 4, 729, 15625);
        dueFoxes(sixth, 6, 9, 1, 1000000);
        HenOracle twice = Checks.yardOf("place 1 3 0;layer 0;news 1 1;news 2 1");
        dueFoxes(twice, 3, 5, 1, 4);
        twice.day();
        dueFoxes(twice, 1, 5, 1, 2);
        twice.day();
        dueFoxes(twice, 1, 5, 1, 2);
        twice.day();
        dueFoxes(twice, 6, 5, 0, 1);
    }

    private static void foxesRefused() {
        HenOracle x = Checks.yardOf(TO_AND_FRO);
        due("foxes(1, 7, 11, 2)", x.foxes(1, 7, 11, 2), HenOracle.UNKNOWN);
        due("foxes(-1, 0, 0, 0)", x.foxes(-1, 0, 0, 0), HenOracle.UNKNOWN);
        due("foxes(0, 7, 0, 0)", x.foxes(0, 7, 0, 0), HenOracle.OUTSIDE);
        due("foxes(0, -1, 0, 0)", x.foxes(0, -1, 0, 0), HenOracle.OUTSIDE);
        due("foxes(0, 1, 11, 0)", x.foxes(0, 1, 11, 0), HenOracle.OUTSIDE);
        due("foxes(0, 1, -1, 0)", x.foxes(0, 1, -1, 0), HenOracle.OUTSIDE);
        due("foxes(0, 1, 1, 2)", x.foxes(0, 1, 1, 2), HenOracle.OUTSIDE);
        due("foxes(0, 1, 1, -1)", x.foxes(0, 1, 1, -1), HenOracle.OUTSIDE);
    }

    private static void count() {
        HenOracle x = Checks.yardOf("place 1 3 0;place 2 2 0;place 3 1 0;layer 0;layer 0;news 0 1;news 1 1");
        x.day();
        x.heed(0);
        x.day();
        x.eat(0);
        x.thunder();
        x.seen(0, 1, 0);
        x.seen(1, 1, 0);
        Checks.write(x, "calm");
        int[] due = {3, 2, 2, 2, 1, 1, 10001, 2, 2, 1, 2, 5, 4};
        for (int what = 0; what < due.length; what++) {
            due("count(" + what + ")", x.count(what), due[what]);
        }
        due("count(13)", x.count(13), HenOracle.OUTSIDE);
        due("count(-1)", x.count(-1), HenOracle.OUTSIDE);
        due("count(max)", x.count(Integer.MAX_VALUE), HenOracle.OUTSIDE);
    }
}
