/** Promises 10 to 18: days, and what is done on them. */
public final class DaysTest {
    private static final Checks CHECKS = new Checks();
    /** The LAYER goes to and fro: 6 against 4, less 3 where she laid last. */
    private static final String TO_AND_FRO = "place 1 3 0;place 2 2 0;layer 3;news 0 1;news 1 1";

    public static void main(String[] args) {
        dayOfLayer();
        dayOfBroody();
        dayOfPullet();
        dayOfChina();
        dayOfMany();
        dayOfNews();
        dayTheLast();
        thunder();
        straw();
        move();
        eat();
        heed();
        heedAfterMove();
        heedAfterUndo();
        undoEach();
        undoLastEight();
        undoAfterRefused();
        keepAndBack();
        keepLeavesOut();
        keepRefused();
        CHECKS.end("DaysTest");
    }

    private static void due(String call, int got, int want) {
        CHECKS.due(call, got, want);
    }

    private static void dueDays(String name, HenOracle x, int... bits) {
        for (int i = 0; i < bits.length; i++) {
            due(name + " on day " + x.count(2), x.day(), bits[i]);
        }
    }

    private static void dayOfLayer() {
        HenOracle x = Checks.yardOf(TO_AND_FRO);
        dueDays("layer", x, 1, 2, 1, 2);
        due("the day", x.count(2), 4);
        due("right ones", x.hen(0, 3), 1);
        due("wrong ones", x.hen(0, 4), 3);
        due("the egg of the day before is gone", x.place(0, 3), HenOracle.NONE);
        due("the egg of the latest day", x.place(1, 3), 0);
        due("eggs", x.count(3), 2);
        HenOracle even = Checks.yardOf("place 0 1 2;place 0 2 0;layer 0;layer 0");
        dueDays("of several the first", even, 3, 3);
        due("the first hen at the first place", even.place(0, 3), 0);
        HenOracle sad = Checks.yardOf("place 0 0 0;layer 9");
        dueDays("a place liked by less than 0", sad, 1, 1);
        HenOracle empty = Checks.yardOf("layer 9");
        dueDays("no place", empty, 0);
        due("a day goes by all the same", empty.count(2), 1);
    }

    private static void dayOfBroody() {
        HenOracle x = Checks.yardOf("place 1 3 0;place 2 2 0;broody 9");
        dueDays("broody", x, 1, 0, 1, 0);
        due("last egg of the broody one", x.hen(0, 2), 0);
        due("her eggs", x.count(8), 2);
        HenOracle y = Checks.yardOf("place 1 3 0;place 2 2 0;broody 0");
        dueDays("broody", y, 1, 0);
        y.straw(1, 7);
        dueDays("broody, 15 against 14", y, 1, 0);
        y.straw(1, 8);
        dueDays("broody, 15 against 16", y, 2, 0, 2);
    }

    private static void dayOfPullet() {
        HenOracle x = Checks.yardOf("place 0 9 2;place 0 0 5;pullet 3");
        dueDays("pullet", x, 2, 2, 1, 2, 2, 1);
    }

    private static void dayOfChina() {
        HenOracle x = Checks.yardOf("place 0 9 9;place 0 0 0;place 0 0 0;china 5;china 2;china 8;china 1");
        dueDays("china", x, 7);
        due("the first at 5 by 3", x.place(2, 3), 0);
        due("the second at the first left", x.place(0, 3), 1);
        due("the third at the last left", x.place(1, 3), 2);
        due("the fourth has none", x.hen(3, 2), HenOracle.NONE);
        HenOracle alone = Checks.yardOf("place 0 9 9;place 0 0 0;place 0 0 0;china 4");
        dueDays("china, alone", alone, 2, 2);
    }

    private static void dayOfMany() {
        HenOracle x = Checks.yardOf("place 0 1 0;place 0 2 0;place 0 3 0;broody 0;layer 0;layer 0");
        dueDays("broody and layers", x, 7, 6, 7);
        due("on an even day the broody one comes first", x.place(2, 3), 0);
    }

    private static void dayOfNews() {
        HenOracle x = Checks.yardOf("place 0 1 0;layer 0;news 0 0;news 13 0");
        for (int day = 0; day < 29; day++) {
            x.day();
        }
        // DAYS 0, 13, 14, 27, 28 of 0 .. 28.
        due("right ones in 29 days", x.count(7), 5);
        due("wrong ones in 29 days", x.count(8), 24);
    }

    /** Beyond the 512 calls that are promised, yet the document names the edge. */
    private static void dayTheLast() {
        HenOracle x = Checks.yardOf(TO_AND_FRO);
        for (int day = 0; day < 999; day++) {
            x.day();
        }
        due("the last day", x.count(2), 999);
        String before = Checks.allOf(x);
        CHECKS.refused("day() on day 999", x, before, x.day(), HenOracle.FULL);
    }

    private static void thunder() {
        HenOracle x = Checks.yardOf(TO_AND_FRO);
        x.day();
        due("thunder()", x.thunder(), 0);
        due("thunder() again", x.thunder(), 1);
        due("it thunders", x.count(9), 1);
        due("eggs stay while it thunders", x.count(3), 1);
        dueDays("thunder", x, 0);
        due("the thunder is over", x.count(9), 0);
        due("no egg is there", x.count(3), 0);
        due("no more wrong ones", x.count(8), 0);
        due("the day behind thunder", x.count(2), 2);
        dueDays("behind thunder", x, 2);
    }

    private static void straw() {
        HenOracle x = Checks.yardOf(TO_AND_FRO);
        due("straw(0, 0)", x.straw(0, 0), 3);
        due("straw(0, 9)", x.straw(0, 9), 0);
        due("straw(0, 9) again", x.straw(0, 9), 9);
        due("warm", x.place(0, 1), 9);
        due("warm of the other", x.place(1, 1), 2);
        dueDays("straw", x, 1, 1);
        String before = Checks.allOf(x);
        CHECKS.refused("straw(2, 1)", x, before, x.straw(2, 1), HenOracle.UNKNOWN);
        CHECKS.refused("straw(-1, 10)", x, before, x.straw(-1, 10), HenOracle.UNKNOWN);
        CHECKS.refused("straw(0, 10)", x, before, x.straw(0, 10), HenOracle.OUTSIDE);
        CHECKS.refused("straw(0, -1)", x, before, x.straw(0, -1), HenOracle.OUTSIDE);
    }

    private static void move() {
        HenOracle x = Checks.yardOf("place 1 3 5;place 2 2 6;place 3 1 7;layer 0;news 0 3");
        due("move(0, 2)", x.move(0, 2), 3);
        due("meaning of 0", x.place(0, 0), 3);
        due("meaning of 2", x.place(2, 0), 1);
        due("meaning of 1", x.place(1, 0), 2);
        due("warm stays", x.place(0, 1), 3);
        due("light stays", x.place(2, 2), 7);
        dueDays("moved", x, 1);
        due("right by the trough", x.count(7), 1);
        due("move(2, 0)", x.move(2, 0), 3);
        due("meaning of 0 again", x.place(0, 0), 1);
        String before = Checks.allOf(x);
        CHECKS.refused("move(1, 1)", x, before, x.move(1, 1), HenOracle.UNKNOWN);
        CHECKS.refused("move(0, 3)", x, before, x.move(0, 3), HenOracle.UNKNOWN);
        CHECKS.refused("move(3, 0)", x, before, x.move(3, 0), HenOracle.UNKNOWN);
        CHECKS.refused("move(-1, 0)", x, before, x.move(-1, 0), HenOracle.UNKNOWN);
    }

    private static void eat() {
        HenOracle x = Checks.yardOf("place 1 3 0;place 2 2 0;layer 0;layer 0");
        String before = Checks.allOf(x);
        CHECKS.refused("eat(0) ahead of a day", x, before, x.eat(0), HenOracle.NOT);
        x.day();
        due("eat(0)", x.eat(0), 1);
        due("eat(1)", x.eat(1), 2);
        due("no eggs", x.count(3), 0);
        due("eaten", x.count(4), 2);
        due("heeded", x.count(5), 0);
        due("fortune", x.count(6), 9999);
        due("wrong ones stay", x.count(8), 2);
        before = Checks.allOf(x);
        CHECKS.refused("eat(0) again", x, before, x.eat(0), HenOracle.NOT);
        CHECKS.refused("heed(0) of an eaten one", x, before, x.heed(0), HenOracle.NOT);
        CHECKS.refused("eat(2)", x, before, x.eat(2), HenOracle.UNKNOWN);
        CHECKS.refused("eat(-1)", x, before, x.eat(-1), HenOracle.UNKNOWN);
        x.day();
        due("eat(1) on the next day", x.eat(1), 3);
    }

    private static void heed() {
        HenOracle x = Checks.yardOf("place 1 3 0;place 2 2 0;layer 0;layer 0;news 0 2");
        String before = Checks.allOf(x);
        CHECKS.refused("heed(0) ahead of a day", x, before, x.heed(0), HenOracle.NOT);
        x.day();
        due("heed(0), wrong", x.heed(0), 9998);
        due("heed(1), right", x.heed(1), 10000);
        due("heeded", x.count(5), 2);
        due("eaten", x.count(4), 0);
        due("fortune", x.count(6), 10000);
        due("no eggs", x.count(3), 0);
        before = Checks.allOf(x);
        CHECKS.refused("heed(1) again", x, before, x.heed(1), HenOracle.NOT);
        CHECKS.refused("heed(2)", x, before, x.heed(2), HenOracle.UNKNOWN);
        CHECKS.refused("heed(-1)", x, before, x.heed(-1), HenOracle.UNKNOWN);
    }

    private static void heedAfterMove() {
        HenOracle x = Checks.yardOf("place 1 3 0;place 2 2 0;layer 0;layer 0;news 0 2");
        x.day();
        x.move(0, 1);
        due("an egg that was wrong stays wrong", x.heed(0), 9998);
        due("an egg that was right stays right", x.heed(1), 10000);
    }

    private static void heedAfterUndo() {
        HenOracle x = Checks.yardOf("place 1 3 0;layer 0;news 0 1");
        x.day();
        x.keep(0);
        x.day();
        x.undo();
        due("the right egg of the day before", x.heed(0), 10001);
        x.day();
        x.back(0);
        due("the right egg as kept", x.heed(0), 10001);
    }

    private static void undoEach() {
        HenOracle x = Checks.yardOf("place 1 3 0;place 2 2 0;layer 3;layer 3;news 0 1;news 2 2");
        String[] was = new String[7];
        was[0] = Checks.allOf(x);
        x.day();
        was[1] = Checks.allOf(x);
        x.thunder();
        was[2] = Checks.allOf(x);
        x.straw(1, 9);
        was[3] = Checks.allOf(x);
        x.move(0, 1);
        was[4] = Checks.allOf(x);
        x.eat(0);
        was[5] = Checks.allOf(x);
        x.heed(1);
        was[6] = Checks.allOf(x);
        for (int left = 5; left >= 0; left--) {
            due("undo() to " + left, x.undo(), left);
            CHECKS.due("all as it was at " + left, was[left].equals(Checks.allOf(x)), true);
        }
        CHECKS.refused("undo() of nothing", x, was[0], x.undo(), HenOracle.NOT);
        due("the same day again", x.day(), 3);
        CHECKS.due("all as it was, once more", was[1].equals(Checks.allOf(x)), true);
    }

    private static void undoLastEight() {
        HenOracle x = Checks.yardOf(TO_AND_FRO);
        for (int day = 0; day < 11; day++) {
            due("undoable on day " + day, x.count(11), Math.min(day, 8));
            x.day();
        }
        for (int left = 7; left >= 0; left--) {
            due("undo() of the last eight", x.undo(), left);
            due("the day undone", x.count(2), left + 3);
        }
        due("undo() of a ninth", x.undo(), HenOracle.NOT);
        due("its day", x.count(2), 3);
        due("its eggs", x.count(3), 1);
        x.day();
        due("undoable again", x.count(11), 1);
    }

    private static void undoAfterRefused() {
        HenOracle x = Checks.yardOf(TO_AND_FRO);
        x.day();
        x.straw(0, 10);
        x.eat(1);
        x.move(0, 0);
        x.heed(7);
        x.keep(0);
        x.seen(0, 1, 0);
        x.write('c');
        due("refused and other calls are not undone", x.undo(), 0);
        due("the day is", x.count(2), 0);
        due("what is seen stays", x.count(10), 1);
        due("the text stays", x.count(12), 1);
        due("what is kept stays", x.back(0), 1);
    }

    private static void keepAndBack() {
        HenOracle x = Checks.yardOf("place 1 3 0;place 2 2 0;layer 3;layer 3;news 0 1;news 2 2");
        due("keep(0) on day 0", x.keep(0), 0);
        x.day();
        x.day();
        x.heed(0);
        x.eat(1);
        x.straw(0, 7);
        x.move(0, 1);
        x.thunder();
        due("keep(1) on day 2", x.keep(1), 2);
        String second = Checks.yardIn(x);
        due("undoable behind keep", x.count(11), 7);
        due("back(0)", x.back(0), 0);
        due("undoable behind back", x.count(11), 0);
        due("undo() behind back", x.undo(), HenOracle.NOT);
        due("meaning", x.place(0, 0), 1);
        due("warm", x.place(0, 1), 3);
        due("fortune", x.count(6), 9999);
        due("eaten", x.count(4), 0);
        due("last egg", x.hen(0, 2), HenOracle.NONE);
        due("wrong ones", x.count(8), 0);
        due("no thunder", x.count(9), 0);
        x.day();
        due("back(1)", x.back(1), 2);
        CHECKS.due("all as kept", second.equals(Checks.yardIn(x)), true);
        due("back(0) once more", x.back(0), 0);
        x.day();
        due("keep(0) over the old one", x.keep(0), 1);
        x.day();
        due("back(0) to the new one", x.back(0), 1);
    }

    private static void keepLeavesOut() {
        HenOracle x = Checks.yardOf(TO_AND_FRO);
        x.seen(0, 1, 0);
        x.keep(0);
        x.seen(0, 2, 1);
        x.write('c');
        x.back(0);
        due("what is seen behind back", x.count(10), 2);
        due("the text behind back", x.count(12), 1);
    }

    private static void keepRefused() {
        HenOracle x = Checks.yardOf(TO_AND_FRO);
        x.day();
        String before = Checks.allOf(x);
        CHECKS.refused("keep(2)", x, before, x.keep(2), HenOracle.UNKNOWN);
        CHECKS.refused("keep(-1)", x, before, x.keep(-1), HenOracle.UNKNOWN);
        CHECKS.refused("back(2)", x, before, x.back(2), HenOracle.UNKNOWN);
        CHECKS.refused("back(-1)", x, before, x.back(-1), HenOracle.UNKNOWN);
        CHECKS.refused("back(0)", x, before, x.back(0), HenOracle.NOT);
        x.keep(0);
        CHECKS.refused("back(1)", x, before, x.back(1), HenOracle.NOT);
    }
}
