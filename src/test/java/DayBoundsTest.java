/** Every sentence of the document's part 2, A DAY, that names a bound: at it, below it, beyond it. */
public final class DayBoundsTest {
    private static final Rows ROWS = new Rows();

    public static void main(String[] args) {
        eggsOfTheDayBefore();
        placesWithoutAnEgg();
        ofSeveralTheFirst();
        noSuchPlace();
        thunder();
        broodyDays();
        rightOrWrong();
        nextDay();
        layerLikes();
        layerLastEgg();
        broodyLikes();
        pulletLikes();
        chinaLikes();
        eatenOrHeeded();
        fortune();
        moved();
        straw();
        kindsOverOneAnother();
        ROWS.end("DayBoundsTest");
    }

    private static void eggsOfTheDayBefore() {
        ROWS.sentence("A DAY: EGGS of the one before are gone", """
            tell place 1 3 0;place 2 2 0;layer 3
            day() = 1
            count(3) = 1
            place(0, 3) = 0
            place(1, 3) = NONE
            day() = 2
            count(3) = 2
            place(0, 3) = NONE
            place(1, 3) = 0
            -- they are gone, too, where none is laid
            thunder() = 0
            count(3) = 2
            day() = 0
            count(3) = 0
            place(1, 3) = NONE
            """);
    }

    private static void placesWithoutAnEgg() {
        ROWS.sentence("HENS by numbers lay one EGG each, at the PLACE without an EGG that each LIKES best", """
            -- 18, 16, 14: each would have the last PLACE, and the first HEN has it
            tell place 1 7 0;place 2 8 0;place 3 9 0;layer 0;layer 0
            day() = 6
            place(2, 3) = 0
            place(1, 3) = 1
            place(0, 3) = NONE
            tell layer 0
            day() = 7
            place(0, 3) = 2
            -- the EGG that lay there the day before keeps nobody from it
            day() = 7
            place(2, 3) = 0
            place(0, 3) = 2
            """);
    }

    private static void ofSeveralTheFirst() {
        ROWS.sentence("LIKES best on this DAY, of several the first", """
            -- 8 by 8 by 8
            tell place 1 4 0;place 2 3 2;place 3 0 8;layer 0
            day() = 1
            new
            -- 8 by 9 by 9
            tell place 1 4 0;place 2 4 1;place 3 0 9;layer 0
            day() = 2
            new
            -- 8 by 8 by 9
            tell place 1 4 0;place 2 3 2;place 3 0 9;layer 0
            day() = 4
            new
            tell place 1 4 0;place 2 3 2;place 3 0 8;layer 0;layer 0
            day() = 3
            place(0, 3) = 0
            place(1, 3) = 1
            """);
    }

    private static void noSuchPlace() {
        ROWS.sentence("none lays, if there is no such PLACE", """
            -- no PLACE at all
            tell layer 0;broody 0;pullet 0;china 0
            day() = 0
            count(2) = 1
            hen(0, 2) = NONE
            hen(3, 2) = NONE
            count(8) = 0
            new
            -- one PLACE less than HENS, then as many, then one more
            tell place 0 0 0;place 0 0 0;layer 0;pullet 0;china 2
            day() = 3
            hen(2, 2) = NONE
            hen(2, 4) = 0
            tell place 0 0 0
            day() = 7
            hen(2, 2) = 2
            hen(2, 4) = 1
            tell place 0 0 0
            day() = 7
            new
            tell place 0 0 0;place 0 0 0;place 0 0 0;place 0 0 0;layer 0;layer 0;layer 0;layer 0;layer 0
            day() = 15
            hen(3, 2) = 3
            hen(4, 2) = NONE
            tell place 0 0 0;place 0 0 0;place 0 0 0;place 0 0 0
            day() = 31
            hen(4, 2) = 4
            new
            -- no HEN
            tell place 0 0 0
            day() = 0
            count(2) = 1
            """);
    }

    private static void thunder() {
        ROWS.sentence("none lays, if it THUNDERS (that is over then)", """
            tell place 1 3 0;place 2 2 0;layer 0;layer 0
            thunder() = 0
            count(9) = 1
            day() = 0
            count(9) = 0
            count(2) = 1
            count(8) = 0
            hen(0, 2) = NONE
            day() = 3
            -- told twice it is over with one DAY all the same
            thunder() = 0
            thunder() = 1
            day() = 0
            day() = 3
            """);
    }

    private static void broodyDays() {
        ROWS.sentence("a BROODY one lays on DAYS of an even number alone", """
            tell place 1 3 0;place 2 2 0;broody 0;layer 0
            day() = 3
            place(0, 3) = 0
            place(1, 3) = 1
            day() = 1
            place(0, 3) = 1
            hen(0, 2) = 0
            day() = 3
            place(0, 3) = 0
            -- THUNDER on an even DAY: none for four DAYS
            day() = 1
            thunder() = 0
            day() = 0
            day() = 1
            place(0, 3) = 1
            day() = 3
            """);
    }

    private static void rightOrWrong() {
        ROWS.sentence("An EGG is RIGHT, if NEWS of this DAY is the MEANING of its PLACE; else WRONG", """
            -- no NEWS is not the MEANING 0
            tell place 0 0 0;layer 0
            day() = 1
            hen(0, 3) = 0
            hen(0, 4) = 1
            new
            tell place 0 0 0;layer 0;news 0 0
            day() = 1
            hen(0, 3) = 1
            hen(0, 4) = 0
            new
            tell place 7 0 0;layer 0;news 0 7;news 1 6;news 2 7
            day() = 1
            hen(0, 3) = 1
            hen(0, 4) = 0
            -- by the NEWS of this DAY, not of the one before or behind it
            day() = 1
            hen(0, 3) = 1
            hen(0, 4) = 1
            day() = 1
            hen(0, 3) = 2
            hen(0, 4) = 1
            """);
    }

    private static void nextDay() {
        ROWS.sentence("Then it is the next DAY", """
            count(2) = 0
            day() = 0
            count(2) = 1
            thunder() = 0
            count(2) = 1
            day() = 0
            count(2) = 2
            -- what is foretold takes no DAY
            tell place 0 0 0;layer 0
            lays(0, 30) = 0
            count(2) = 0
            """);
    }

    /** 6 and 4 by WARM; less her HABIT where she laid last. */
    private static void layerLikes() {
        ROWS.sentence("A LAYER LIKES a PLACE by twice its WARM and its LIGHT together, and by her HABIT less", """
            -- HABIT 2: 4 by 4, of several the first
            tell place 1 3 0;place 2 2 0;layer 2
            day() = 1
            day() = 1
            new
            -- HABIT 3: 3 by 4
            tell place 1 3 0;place 2 2 0;layer 3
            day() = 1
            day() = 2
            -- 6 by 1
            day() = 1
            new
            -- HABIT 1, the other way about: 4 by 5
            tell place 2 2 0;place 1 3 0;layer 1
            day() = 2
            day() = 2
            new
            -- HABIT 2: 4 by 4
            tell place 2 2 0;place 1 3 0;layer 2
            day() = 2
            day() = 1
            new
            -- HABIT 0: as it was
            tell place 1 3 0;place 2 2 1;layer 0
            day() = 1
            day() = 1
            new
            -- the most and the least that there is
            tell place 0 9 9;layer 9
            as(0, 1) = 10026
            day() = 1
            as(0, 1) = 10017
            new
            tell place 0 0 0;layer 9
            as(0, 1) = 9999
            day() = 1
            as(0, 1) = 9990
            -- less than 0 is still what she LIKES best
            day() = 1
            """);
    }

    private static void layerLastEgg() {
        ROWS.sentence("by her HABIT less, if her last EGG was laid there", """
            tell place 1 3 0;place 2 2 0;layer 3
            as(0, 1) = 10005
            day() = 1
            as(0, 1) = 10002
            -- eaten, it was still laid there
            eat(0) = 1
            as(0, 1) = 10002
            -- and it is still her last one behind THUNDER
            thunder() = 0
            day() = 0
            as(0, 1) = 10002
            day() = 2
            -- the one before the last does not count
            as(0, 1) = 10005
            """);
    }

    private static void broodyLikes() {
        ROWS.sentence("a BROODY one as a LAYER, and by 9 more, if her last EGG was laid there", """
            -- 6 less 9 and 9 more by 6: of several the first
            tell place 1 3 0;place 2 0 6;broody 9
            day() = 1
            as(0, 2) = 10005
            2 times day()
            hen(0, 2) = 0
            -- by 7
            straw(1, 1) = 0
            day() = 0
            day() = 2
            new
            -- 15 by 15, the last one being the second
            tell place 1 2 1;place 2 3 0;broody 0
            day() = 2
            day() = 0
            straw(0, 7) = 2
            day() = 1
            new
            -- 13 by 15, the last one being the second
            tell place 1 2 1;place 2 3 0;broody 0
            day() = 2
            day() = 0
            straw(0, 6) = 2
            day() = 2
            new
            tell place 0 9 9;broody 0
            as(0, 2) = 10026
            day() = 1
            as(0, 2) = 10035
            """);
    }

    private static void pulletLikes() {
        ROWS.sentence("a PULLET by what is left over by 10 of its LIGHT and DAY times her HABIT together", """
            tell place 0 0 9;place 0 0 0;pullet 1
            -- 9 by 0
            as(0, 3) = 10008
            day() = 1
            -- 10, that is 0, by 1
            as(0, 3) = 9999
            day() = 2
            7 times day()
            -- DAY 9: 18, that is 8, by 9
            as(0, 3) = 10007
            day() = 2
            -- DAY 10: 19, that is 9, by 10, that is 0
            as(0, 3) = 10008
            day() = 1
            -- DAY 11: 0 by 1
            as(0, 3) = 9999
            day() = 2
            new
            -- HABIT 0: as it was, whatever the DAY, the WARM and the last EGG
            tell place 0 9 4;place 0 0 5;pullet 0
            4 times day()
            hen(0, 2) = 1
            as(0, 3) = 10003
            new
            -- HABIT 9: 9, 18, 27, 36
            tell place 0 0 9;pullet 9
            as(0, 3) = 10008
            day() = 1
            as(0, 3) = 10007
            day() = 1
            as(0, 3) = 10006
            day() = 1
            as(0, 3) = 10005
            """);
    }

    private static void chinaLikes() {
        ROWS.sentence("a CHINA one by 1 that PLACE whose number is her HABIT, by how many PLACES there are left over", """
            -- one PLACE: every HABIT is it
            tell place 0 0 0;china 0;china 1;china 9
            as(0, 4) = 10000
            as(1, 4) = 10000
            as(2, 4) = 10000
            day() = 1
            new
            -- two PLACES, then three
            tell place 0 0 0;place 0 0 0;china 2;china 3
            as(0, 4) = 10000
            as(1, 4) = 9999
            tell place 0 0 0
            as(0, 4) = 9999
            as(1, 4) = 10000
            """);
        chinaAmongEight(0, 1);
        chinaAmongEight(7, 128);
        chinaAmongEight(8, 1);
        chinaAmongEight(9, 2);
        ROWS.sentence("a CHINA one .. by 0 all others", """
            -- hers is taken: the first of those left, however warm and light another one is
            tell place 0 0 0;place 0 0 0;place 0 9 9;china 1;china 4
            day() = 3
            place(1, 3) = 0
            place(0, 3) = 1
            """);
    }

    private static void chinaAmongEight(int habit, int bits) {
        ROWS.sentence("a CHINA one among eight PLACES", ("""
            tell place 0 0 0;place 0 0 0;place 0 0 0;place 0 0 0;place 0 0 0;place 0 0 0;place 0 0 0;place 0 0 0;china HABIT
            day() = BITS
            day() = BITS
            """).replace("HABIT", "" + habit).replace("BITS", "" + bits));
    }

    private static void eatenOrHeeded() {
        ROWS.sentence("An EGG that is there (of the latest DAY) is EATEN or HEEDED; it is gone then", """
            tell place 1 3 0;place 2 2 0;layer 3
            -- ahead of the first DAY
            eat(0) = NOT
            heed(0) = NOT
            day() = 1
            eat(1) = NOT
            heed(1) = NOT
            eat(0) = 1
            count(3) = 0
            place(0, 3) = NONE
            eat(0) = NOT
            heed(0) = NOT
            -- of the DAY before
            day() = 2
            day() = 1
            eat(1) = NOT
            heed(1) = NOT
            heed(0) = 9998
            place(0, 3) = NONE
            eat(0) = NOT
            heed(0) = NOT
            -- none was laid in THUNDER
            thunder() = 0
            day() = 0
            eat(0) = NOT
            heed(1) = NOT
            count(4) = 1
            count(5) = 1
            """);
    }

    private static void fortune() {
        ROWS.sentence("FORTUNE (0 at first): of a HEEDED one 2 more, if it is RIGHT, else 1 less", """
            count(6) = 9999
            tell place 1 3 0;place 2 2 0;place 3 1 0;layer 0;layer 0;layer 0;news 0 2
            count(6) = 9999
            day() = 7
            -- below 0, above it, at it
            heed(0) = 9998
            count(6) = 9998
            heed(1) = 10000
            heed(2) = 9999
            count(6) = 9999
            day() = 7
            heed(0) = 9998
            heed(1) = 9997
            heed(2) = 9996
            -- an EATEN one leaves it
            day() = 7
            eat(0) = 1
            count(6) = 9996
            """);
    }

    private static void moved() {
        ROWS.sentence("MOVED: two PLACES exchange MEANINGS", """
            tell place 7 1 2;place 0 3 4;place 5 5 5
            move(0, 1) = 0
            place(0, 0) = 0
            place(1, 0) = 7
            place(2, 0) = 5
            place(0, 1) = 1
            place(0, 2) = 2
            move(2, 0) = 0
            place(2, 0) = 0
            place(0, 0) = 5
            -- one and itself, and beyond the last one
            move(0, 0) = UNKNOWN
            move(2, 2) = UNKNOWN
            move(2, 3) = UNKNOWN
            move(3, 2) = UNKNOWN
            move(3, 3) = UNKNOWN
            move(-1, 0) = UNKNOWN
            move(0, -1) = UNKNOWN
            new
            -- the same MEANING
            tell place 4 1 2;place 4 3 4
            move(0, 1) = 4
            count(11) = 1
            new
            -- an EGG that was laid ahead of it is RIGHT or WRONG as it was
            tell place 1 3 0;place 2 2 0;layer 0;layer 0;news 0 1
            day() = 3
            move(0, 1) = 2
            hen(0, 3) = 1
            hen(1, 3) = 0
            heed(0) = 10001
            heed(1) = 10000
            """);
    }

    private static void straw() {
        ROWS.sentence("STRAW: WARM of a PLACE becomes another one", """
            tell place 1 4 0;place 2 4 0;layer 0
            straw(1, 9) = 4
            place(1, 1) = 9
            place(0, 1) = 4
            day() = 2
            straw(1, 0) = 9
            place(1, 1) = 0
            day() = 1
            straw(1, 0) = 0
            straw(1, 10) = OUTSIDE
            straw(1, -1) = OUTSIDE
            straw(2, 0) = UNKNOWN
            straw(-1, 0) = UNKNOWN
            place(1, 1) = 0
            """);
    }

    private static void kindsOverOneAnother() {
        ROWS.sentence("KINDS: HEN (0); LAYER (1) under it; BROODY (2) is LAYER; PULLET (3) is LAYER; CHINA (4) is a HEN", """
            tell place 0 1 2;layer 5;broody 5;pullet 5;china 5
            as(0, 0) = 10003
            as(0, 1) = 10003
            as(0, 2) = NOT
            as(0, 3) = NOT
            as(0, 4) = NOT
            as(1, 0) = 10003
            as(1, 1) = 10003
            as(1, 2) = 10003
            as(1, 3) = NOT
            as(1, 4) = NOT
            as(2, 0) = 10001
            as(2, 1) = 10001
            as(2, 2) = NOT
            as(2, 3) = 10001
            as(2, 4) = NOT
            as(3, 0) = 10000
            as(3, 1) = NOT
            as(3, 2) = NOT
            as(3, 3) = NOT
            as(3, 4) = 10000
            as(0, 5) = OUTSIDE
            as(3, -1) = OUTSIDE
            """);
    }
}
