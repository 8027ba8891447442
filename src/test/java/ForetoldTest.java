/** Promises 19 to 23: what is foretold. */
public final class ForetoldTest {
    private static final Checks CHECKS = new Checks();
    /** The LAYER goes to and fro: 6 against 4, less 3 where she laid last. */
    private static final String TO_AND_FRO = "place 1 3 0;place 2 2 0;layer 3;news 0 1;news 1 1";

    public static void main(String[] args) {
        lays();
        laysOfMany();
        rights();
        ask();
        askRefused();
        trough();
        troughByDays();
        warmth();
        warmthAmongOthers();
        nothingChanges();
        CHECKS.end("ForetoldTest");
    }

    private static void due(String call, int got, int want) {
        CHECKS.due(call, got, want);
    }

    private static void lays() {
        HenOracle x = Checks.yardOf(TO_AND_FRO);
        for (int n = 1; n <= 30; n++) {
            due("lays(0, " + n + ")", x.lays(0, n), (n + 1) % 2);
        }
        x.day();
        due("lays(0, 1) on day 1", x.lays(0, 1), 1);
        x.thunder();
        due("lays(0, 1) in thunder", x.lays(0, 1), HenOracle.NONE);
        due("lays(0, 2) behind thunder", x.lays(0, 2), 1);
        due("lays(0, 0)", x.lays(0, 0), HenOracle.OUTSIDE);
        due("lays(0, 31)", x.lays(0, 31), HenOracle.OUTSIDE);
        due("lays(0, -1)", x.lays(0, -1), HenOracle.OUTSIDE);
        due("lays(1, 1)", x.lays(1, 1), HenOracle.UNKNOWN);
        due("lays(-1, 31)", x.lays(-1, 31), HenOracle.UNKNOWN);
    }

    private static void laysOfMany() {
        HenOracle x = Checks.yardOf("place 1 1 0;place 2 2 0;broody 0;layer 0;china 0");
        int[][] due = {{1, 0, -1}, {-1, 1, 0}, {1, 0, -1}};
        for (int n = 1; n <= 3; n++) {
            for (int hen = 0; hen < 3; hen++) {
                due("lays(" + hen + ", " + n + ")", x.lays(hen, n), due[n - 1][hen]);
            }
        }
        HenOracle bare = Checks.yardOf("layer 0");
        due("lays without a place", bare.lays(0, 3), HenOracle.NONE);
        // An EGG that still lies there is gone ahead of the next DAY.
        HenOracle one = Checks.yardOf("place 1 1 0;layer 0");
        one.day();
        due("lays where an egg is", one.lays(0, 1), 0);
    }

    private static void rights() {
        HenOracle x = Checks.yardOf(TO_AND_FRO);
        int[][] due = {{0, 0}, {1, 1}, {2, 1}, {14, 1}, {15, 2}, {28, 2}, {29, 3}, {30, 3}};
        for (int[] row : due) {
            due("rights(0, " + row[0] + ")", x.rights(0, row[0]), row[1]);
        }
        x.day();
        due("rights(0, 1) on day 1", x.rights(0, 1), 0);
        due("rights(0, 14) on day 1", x.rights(0, 14), 1);
        due("rights(0, 31)", x.rights(0, 31), HenOracle.OUTSIDE);
        due("rights(0, -1)", x.rights(0, -1), HenOracle.OUTSIDE);
        due("rights(1, -1)", x.rights(1, -1), HenOracle.UNKNOWN);
        due("rights(-1, 0)", x.rights(-1, 0), HenOracle.UNKNOWN);
    }

    /** In 30 DAYS the second one is right on 1, 2, 15, 16, 29. */
    private static void ask() {
        HenOracle x = Checks.yardOf("place 1 3 0;place 2 2 0;layer 0;layer 0;news 0 1;news 1 2;news 2 2");
        int[][] due = {{0, 0, 0}, {1, 0, 1}, {2, 0, 1}, {3, 1, 2}, {30, 1, 5}};
        for (int[] row : due) {
            due("ask(" + row[0] + ", 0)", x.ask(row[0], 0), row[1]);
            due("ask(" + row[0] + ", 1)", x.ask(row[0], 1), row[2]);
        }
        x.day();
        due("ask(1, 0) on day 1: earlier ones are not foretold", x.ask(1, 0), 1);
        due("ask(1, 1) on day 1", x.ask(1, 1), 1);
    }

    private static void askRefused() {
        HenOracle x = Checks.yardOf("place 1 3 0");
        due("ask(0, 0) without hens", x.ask(0, 0), HenOracle.NONE);
        due("ask(30, 1) without hens", x.ask(30, 1), HenOracle.NONE);
        due("ask(31, 0)", x.ask(31, 0), HenOracle.OUTSIDE);
        due("ask(-1, 0)", x.ask(-1, 0), HenOracle.OUTSIDE);
        due("ask(1, 2)", x.ask(1, 2), HenOracle.OUTSIDE);
        due("ask(1, -1)", x.ask(1, -1), HenOracle.OUTSIDE);
    }

    private static void trough() {
        due("trough, 0 and 2",
            Checks.yardOf("place 1 3 0;place 2 2 0;place 3 1 0;layer 0;news 0 3").trough(1), 2);
        due("trough, 1 and 2",
            Checks.yardOf("place 1 0 0;place 2 3 0;place 3 1 0;layer 0;news 0 3").trough(1), 12);
        due("trough, of several the first",
            Checks.yardOf("place 1 3 0;place 2 2 0;place 2 1 0;layer 0;news 0 2").trough(1), 1);
        due("trough, as good as it is",
            Checks.yardOf("place 1 3 0;place 2 2 0;layer 0;layer 0;news 0 1").trough(1), HenOracle.NONE);
        due("trough, better as it is",
            Checks.yardOf("place 1 3 0;place 2 2 0;layer 0;news 0 1").trough(1), HenOracle.NONE);
        due("trough without news", Checks.yardOf("place 1 3 0;place 2 2 0;layer 0").trough(20), HenOracle.NONE);
        due("trough without hens", Checks.yardOf("place 1 3 0;place 2 2 0;news 0 1").trough(20), HenOracle.NONE);
        HenOracle eight = Checks.yardOf("place 0 0 0;place 0 0 0;place 0 0 0;place 0 0 0");
        Checks.tell(eight, "place 0 0 0;place 0 0 0;place 0 9 0;place 7 1 0;layer 0;news 0 7");
        due("trough, 6 and 7", eight.trough(1), 67);
    }

    private static void troughByDays() {
        HenOracle x = Checks.yardOf("place 1 3 0;place 2 2 0;layer 0;news 0 1;news 1 2;news 2 2");
        due("trough(1)", x.trough(1), HenOracle.NONE);
        due("trough(2)", x.trough(2), HenOracle.NONE);
        due("trough(3)", x.trough(3), 1);
        due("trough(20)", x.trough(20), 1);
        due("trough(0)", x.trough(0), HenOracle.OUTSIDE);
        due("trough(21)", x.trough(21), HenOracle.OUTSIDE);
        due("trough(-1)", x.trough(-1), HenOracle.OUTSIDE);
        x.thunder();
        due("trough(2) in thunder", x.trough(2), 1);
        x.move(0, 1);
        due("trough(3), moved already", x.trough(3), HenOracle.NONE);
        // To and fro between 0 and 2: 0 by 1 helps on DAY 0 alone, 0 by 2 on both DAYS.
        HenOracle both = Checks.yardOf("place 1 3 0;place 2 0 0;place 2 2 0;layer 3;news 0 2;news 1 1");
        due("trough, by both of its places", both.trough(2), 2);
        due("trough, by the first of its places", both.trough(1), 1);
        HenOracle apart = Checks.yardOf("place 2 9 0;place 3 1 0;place 1 0 0;layer 0;news 0 7");
        due("trough, news that no place means", apart.trough(1), HenOracle.NONE);
        // The first hen at 0, the other at 1: 3 helps on two DAYS at either, 2 is lost on DAY 2 at 1.
        HenOracle y = Checks.yardOf("place 1 3 0;place 2 2 0;place 3 1 0;place 3 0 0;layer 0;layer 0;news 0 3;news 1 3;"
            + "news 2 2");
        due("trough, the first of most", y.trough(3), 2);
    }

    private static void warmth() {
        HenOracle x = Checks.yardOf(TO_AND_FRO);
        due("warmth(0, 0), 4 and the first", x.warmth(0, 0), 2);
        due("warmth(0, 1), more than 6", x.warmth(0, 1), 4);
        x.day();
        due("warmth(0, 0) where she laid last", x.warmth(0, 0), 4);
        x.thunder();
        due("warmth(0, 0) in thunder", x.warmth(0, 0), HenOracle.NONE);
        due("warmth(1, 0)", x.warmth(1, 0), HenOracle.UNKNOWN);
        due("warmth(0, 2)", x.warmth(0, 2), HenOracle.UNKNOWN);
        due("warmth(-1, 0)", x.warmth(-1, 0), HenOracle.UNKNOWN);
        due("warmth(0, -1)", x.warmth(0, -1), HenOracle.UNKNOWN);
        HenOracle never = Checks.yardOf("place 0 0 0;place 0 9 9;layer 0");
        due("warmth, never warm enough", never.warmth(0, 0), HenOracle.NONE);
        HenOracle just = Checks.yardOf("place 0 0 0;place 0 9 0;layer 0");
        due("warmth, 9 is enough", just.warmth(0, 0), 9);
        HenOracle broody = Checks.yardOf("place 0 0 0;broody 0");
        due("warmth, broody on day 0", broody.warmth(0, 0), 0);
        broody.day();
        due("warmth, broody on day 1", broody.warmth(0, 0), HenOracle.NONE);
        HenOracle pullet = Checks.yardOf("place 0 0 2;place 0 0 5;pullet 3");
        due("warmth, pullet elsewhere", pullet.warmth(0, 0), HenOracle.NONE);
        due("warmth, pullet there", pullet.warmth(0, 1), 0);
    }

    private static void warmthAmongOthers() {
        HenOracle x = Checks.yardOf("place 1 3 0;place 2 2 0;layer 0;layer 0");
        due("warmth(1, 0): the other one leaves it", x.warmth(1, 0), 0);
        due("warmth(1, 1)", x.warmth(1, 1), 0);
        due("warmth(0, 1)", x.warmth(0, 1), 4);
        HenOracle y = Checks.yardOf("place 1 3 0;place 2 2 0;place 3 1 0;layer 0;layer 0");
        due("warmth(1, 2): as warm as place 1 is too little", y.warmth(1, 2), 3);
        due("warmth(0, 2)", y.warmth(0, 2), 4);
    }

    private static void nothingChanges() {
        HenOracle x = Checks.yardOf("place 1 3 0;place 2 2 0;layer 3;broody 2;pullet 7;china 1;news 0 1;news 3 2");
        x.day();
        x.thunder();
        x.straw(0, 5);
        String before = Checks.allOf(x);
        x.lays(0, 30);
        x.rights(1, 30);
        x.ask(30, 0);
        x.trough(20);
        x.warmth(2, 1);
        x.foxes(0, 6, 3, 0);
        CHECKS.due("all as it was", before.equals(Checks.allOf(x)), true);
        due("and undone as it was", x.undo(), 2);
    }
}
