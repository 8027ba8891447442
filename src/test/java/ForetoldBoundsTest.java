/** Every sentence of the document's part 3, FORETOLD, that names a bound, and those behind it. */
public final class ForetoldBoundsTest {
    private static final Rows ROWS = new Rows();
    /** One PLACE of MEANING 3, one LAYER, and 3 is the NEWS of every DAY. */
    private static final String ALWAYS_RIGHT = """
        tell news 0 3;news 1 3;news 2 3;news 3 3;news 4 3;news 5 3;news 6 3;news 7 3;news 8 3;news 9 3
        tell news 10 3;news 11 3;news 12 3;news 13 3;place 3 0 0;layer 0
        """;

    public static void main(String[] args) {
        nothingChanges();
        lays();
        laysNone();
        rights();
        ask();
        askFirst();
        troughDays();
        troughMore();
        troughNumbers();
        warmth();
        warmthNone();
        seenLimit();
        seenDays();
        seenPlaces();
        kinds();
        habits();
        fromNow();
        foxesDays();
        foxesTenths();
        foxesOnce();
        unknown();
        outside();
        notNow();
        full();
        firstThatFits();
        lowestTerms();
        belowNought();
        callsPromised();
        ROWS.end("ForetoldBoundsTest");
    }

    private static void nothingChanges() {
        ROWS.sentence("FORETOLD (nothing changes), DAYS going by from now", """
            tell place 1 3 0;place 2 2 0;layer 3;broody 2;news 0 1;news 3 2
            day() = 3
            straw(1, 4) = 2
            thunder() = 0
            keep(0) = 1
            seen(0, 2, 1) = 1
            -- Behind each row below, two objects are compared, one of which was not asked.
            lays(0, 1) = NONE
            lays(0, 30) = 1
            rights(0, 0) = 0
            ask(0, 0) = 0
            trough(1) = NONE
            warmth(0, 0) = NONE
            kinds(0) = 9
            habits(0) = 1023
            foxes(0, 6, 10, 0) = 0
            count(2) = 1
            count(9) = 1
            """);
    }

    /** To and fro: 6 by 4, less 3 where she laid last. */
    private static void lays() {
        ROWS.sentence("LAYS of one on the n-th DAY (1 .. 30; 1: this one): the PLACE", """
            tell place 1 3 0;place 2 2 0;layer 3
            lays(0, -1) = OUTSIDE
            lays(0, 0) = OUTSIDE
            lays(0, 1) = 0
            lays(0, 2) = 1
            lays(0, 3) = 0
            lays(0, 29) = 0
            lays(0, 30) = 1
            lays(0, 31) = OUTSIDE
            -- this one is what day() then does
            day() = 1
            lays(0, 1) = 1
            lays(0, 30) = 0
            day() = 2
            """);
    }

    private static void laysNone() {
        ROWS.sentence("LAYS ..: the PLACE; none", """
            -- no PLACE at all
            tell layer 0
            lays(0, 1) = NONE
            lays(0, 30) = NONE
            lays(0, 31) = OUTSIDE
            new
            -- none left, THUNDER, an odd DAY
            tell place 0 0 0;broody 0;layer 0
            lays(0, 1) = 0
            lays(1, 1) = NONE
            lays(0, 2) = NONE
            lays(1, 2) = 0
            lays(0, 29) = 0
            lays(0, 30) = NONE
            thunder() = 0
            lays(0, 1) = NONE
            lays(1, 1) = NONE
            lays(1, 2) = 0
            lays(0, 3) = 0
            """);
    }

    private static void rights() {
        ROWS.sentence("RIGHTS of one in n DAYS (0 .. 30): how many of her EGGS are RIGHT", ALWAYS_RIGHT + """
            rights(0, -1) = OUTSIDE
            rights(0, 0) = 0
            rights(0, 1) = 1
            rights(0, 29) = 29
            rights(0, 30) = 30
            rights(0, 31) = OUTSIDE
            -- those laid before now are not among them
            3 times day()
            rights(0, 0) = 0
            rights(0, 30) = 30
            thunder() = 0
            rights(0, 1) = 0
            rights(0, 30) = 29
            """);
    }

    private static void ask() {
        ROWS.sentence("ASK for n DAYS: the HEN with most of these; how many; none", ALWAYS_RIGHT + """
            ask(-1, 0) = OUTSIDE
            ask(0, 0) = 0
            ask(0, 1) = 0
            ask(1, 1) = 1
            ask(29, 1) = 29
            ask(30, 0) = 0
            ask(30, 1) = 30
            ask(31, 0) = OUTSIDE
            ask(31, 1) = OUTSIDE
            ask(30, -1) = OUTSIDE
            ask(30, 2) = OUTSIDE
            new
            -- none: no HEN
            tell place 3 0 0;news 0 3
            ask(0, 0) = NONE
            ask(0, 1) = NONE
            ask(30, 0) = NONE
            ask(30, 1) = NONE
            ask(31, 0) = OUTSIDE
            """);
    }

    private static void askFirst() {
        ROWS.sentence("ASK ..: of several the first", """
            -- the first HEN is RIGHT on DAYS 0, 14, 28, the second one on 1, 15, 29
            tell place 1 3 0;place 2 2 0;layer 0;layer 0;news 0 1;news 1 2
            ask(0, 0) = 0
            ask(1, 0) = 0
            ask(1, 1) = 1
            ask(2, 0) = 0
            ask(2, 1) = 1
            ask(29, 1) = 3
            ask(30, 0) = 0
            ask(30, 1) = 3
            -- without DAY 0 the second one has more in 1, and in 15
            day() = 3
            ask(1, 0) = 1
            ask(1, 1) = 1
            ask(14, 0) = 0
            ask(14, 1) = 1
            ask(15, 0) = 1
            ask(15, 1) = 2
            """);
    }

    /**
     * The PULLET is at PLACE 1 on DAYS 0 and 5, at PLACE 0 on DAY 19; PLACE 2 alone means the NEWS.
     * Its LIGHTS there, by 10: 0 4 1, then 5 9 6, then 9 3 0.
     */
    private static void troughDays() {
        ROWS.sentence("TROUGH for n DAYS (1 .. 20)", """
            tell place 1 0 0;place 2 0 4;place 3 0 1;pullet 1;news 5 3
            trough(-1) = OUTSIDE
            trough(0) = OUTSIDE
            trough(1) = NONE
            trough(5) = NONE
            trough(6) = 12
            trough(19) = 12
            -- DAY 19 is among them: 0 and 2 are as good as 1 and 2, and the first
            trough(20) = 2
            trough(21) = OUTSIDE
            new
            tell place 1 0 0;place 2 0 4;place 3 0 1;pullet 1;news 0 3
            trough(1) = 12
            """);
    }

    private static void troughMore() {
        ROWS.sentence("TROUGH ..: most EGGS of all are RIGHT in these, more than as it is; none", """
            -- as many as it is
            tell place 1 3 0;place 2 2 0;layer 0;layer 0;news 0 1
            trough(1) = NONE
            new
            -- one more than it is
            tell place 1 3 0;place 2 2 0;layer 0;news 0 2
            trough(1) = 1
            move(0, 1) = 2
            trough(1) = NONE
            new
            -- less than it is
            tell place 1 3 0;place 2 2 0;layer 0;news 0 1
            trough(1) = NONE
            new
            -- 1 RIGHT as it is, 2 by 0 and 1, 3 by 0 and 2
            tell place 1 9 0;place 2 0 0;place 3 0 1;layer 0;news 0 1;news 1 2;news 2 2;news 3 3;news 4 3;news 5 3
            trough(6) = 2
            trough(3) = 1
            trough(2) = NONE
            new
            -- NEWS that no PLACE means, the last MEANING beside the first
            tell place 1 3 0;place 2 2 0;place 0 1 0;layer 0;news 0 7
            trough(1) = NONE
            new
            tell place 1 3 0;place 7 2 0;place 2 1 0;layer 0;news 0 0
            trough(1) = NONE
            new
            -- no PLACE, one PLACE, no HEN
            trough(20) = NONE
            tell place 1 0 0;layer 0;news 0 2
            trough(20) = NONE
            new
            tell place 1 0 0;place 2 0 0;news 0 2
            trough(20) = NONE
            """);
    }

    private static void troughNumbers() {
        ROWS.sentence("TROUGH ..: 10 times the lesser and the other one, of several the first", """
            tell place 0 0 0;place 0 0 0;place 0 0 0;place 0 0 0;place 0 0 0;place 0 0 0;place 0 9 0;place 7 0 0;layer 0;news 0 7
            trough(1) = 67
            move(6, 7) = 7
            trough(1) = NONE
            move(0, 6) = 7
            -- 6 has what 7 and all but 0 have
            trough(1) = 6
            new
            -- 0 by 1, 0 by 2 are as good: the first
            tell place 1 3 0;place 2 2 0;place 2 1 0;layer 0;news 0 2
            trough(1) = 1
            new
            -- 0 by 2, 1 by 2 are as good: the first
            tell place 1 3 0;place 1 3 0;place 2 1 0;layer 0;layer 0;news 0 2
            trough(1) = 2
            """);
    }

    private static void warmth() {
        ROWS.sentence("WARMTH of a PLACE for one: the least WARM (0 .. 9) by which she lays there on this DAY", """
            -- the only PLACE
            tell place 1 5 0;layer 0
            warmth(0, 0) = 0
            place(0, 1) = 5
            new
            -- 18 by 18: of several the first
            tell place 1 5 0;place 2 9 0;layer 0
            warmth(0, 0) = 9
            warmth(0, 1) = 6
            new
            -- 1 is enough for 2 by 2, not for 3
            tell place 1 0 0;place 2 0 2;place 3 0 1;layer 0
            warmth(0, 0) = 1
            warmth(0, 1) = 0
            warmth(0, 2) = 1
            """);
    }

    private static void warmthNone() {
        ROWS.sentence("WARMTH ..; none", """
            -- 19 by 18, and 18 by 18 where the other one is the first
            tell place 1 0 0;place 2 9 1;layer 0
            warmth(0, 0) = NONE
            new
            tell place 1 9 0;place 2 0 0;layer 0
            warmth(0, 1) = NONE
            new
            -- THUNDER, an odd DAY, one who does not look at WARM, an earlier one is there
            tell place 1 0 0;place 2 0 5;broody 0;pullet 0;layer 0;china 1
            warmth(0, 0) = 3
            warmth(1, 0) = 0
            warmth(1, 1) = NONE
            warmth(2, 0) = NONE
            warmth(3, 1) = NONE
            day() = 3
            warmth(0, 0) = NONE
            warmth(1, 0) = NONE
            warmth(1, 1) = 0
            thunder() = 0
            warmth(1, 1) = NONE
            """);
    }

    private static void seenLimit() {
        ROWS.sentence("SEEN, 6 at most", """
            tell place 1 3 0;place 2 2 0;layer 3;china 0
            count(10) = 0
            seen(0, 1, 0) = 1
            seen(0, 1, 0) = 2
            seen(1, 1, 0) = 3
            seen(0, 2, 1) = 4
            seen(0, 3, 0) = 5
            count(10) = 5
            seen(1, 14, NONE) = 6
            count(10) = 6
            seen(0, 4, 1) = FULL
            seen(1, 1, NONE) = FULL
            count(10) = 6
            forget() = 6
            count(10) = 0
            seen(0, 4, 1) = 1
            """);
        ROWS.sentence("SEEN: the sixth counts as the first does", """
            tell place 1 3 0;place 2 2 0;layer 3
            seen(0, 1, 0) = 1
            4 times seen(0, 3, 0)
            kinds(0) = 7
            seen(0, 2, 1) = 6
            kinds(0) = 1
            seen(0, 4, 0) = FULL
            kinds(0) = 1
            """);
    }

    private static void seenDays() {
        ROWS.sentence("SEEN: an EGG of one on the n-th DAY (1 .. 14) from now", """
            tell place 1 3 0;place 2 2 0;layer 3
            seen(0, -1, 0) = OUTSIDE
            seen(0, 0, 0) = OUTSIDE
            seen(0, 15, 0) = OUTSIDE
            seen(0, 0, NONE) = OUTSIDE
            seen(0, 15, NONE) = OUTSIDE
            count(10) = 0
            -- to and fro: the first DAY at 0, the fourteenth at 1
            seen(0, 1, 0) = 1
            seen(0, 14, 1) = 2
            kinds(0) = 1
            habits(0) = 1016
            forget() = 2
            seen(0, 14, 0) = 1
            kinds(0) = 4
            forget() = 1
            seen(0, 13, 0) = 1
            kinds(0) = 7
            """);
    }

    private static void seenPlaces() {
        ROWS.sentence("SEEN: .. at a PLACE (NONE: none)", """
            tell place 1 3 0;place 2 2 0;layer 3
            seen(0, 1, -2) = UNKNOWN
            seen(0, 1, 2) = UNKNOWN
            seen(0, 1, MIN) = UNKNOWN
            seen(0, 1, MAX) = UNKNOWN
            seen(0, 2, NONE) = 1
            kinds(0) = 2
            seen(0, 1, 0) = 2
            seen(0, 1, 1) = 3
            kinds(0) = 0
            new
            -- without a PLACE nothing but NONE can be
            tell layer 3
            seen(0, 1, 0) = UNKNOWN
            seen(0, 1, NONE) = 1
            kinds(0) = 15
            habits(0) = 1023
            """);
    }

    private static void kinds() {
        ROWS.sentence("KINDS (0 .. 3, by bits) of one by which, her HABIT as told, all that is SEEN of her would be so", """
            -- LAYER 0 1 0 1, BROODY 0 none 0 none, PULLET 0 0 0 0, CHINA 1 1 1 1
            tell place 1 3 0;place 2 2 0;layer 3
            kinds(0) = 15
            seen(0, 1, 0) = 1
            kinds(0) = 7
            seen(0, 2, 1) = 2
            kinds(0) = 1
            forget() = 2
            seen(0, 2, NONE) = 1
            kinds(0) = 2
            forget() = 1
            seen(0, 1, 0) = 1
            seen(0, 2, 0) = 2
            kinds(0) = 4
            forget() = 2
            seen(0, 1, 1) = 1
            kinds(0) = 8
            seen(0, 1, 0) = 2
            kinds(0) = 0
            hen(0, 0) = 0
            kinds(-1) = UNKNOWN
            kinds(1) = UNKNOWN
            """);
        ROWS.sentence("KINDS: .. all that is SEEN of her", """
            tell place 1 3 0;place 2 2 0;layer 3;layer 3
            seen(1, 1, 1) = 1
            kinds(0) = 15
            habits(0) = 1023
            -- behind the first one she is at 1, whatever she is
            kinds(1) = 15
            forget() = 1
            seen(0, 1, 1) = 1
            kinds(0) = 8
            kinds(1) = 15
            """);
    }

    private static void habits() {
        ROWS.sentence("HABITS (0 .. 9, by bits) likewise, her KIND as told", """
            tell place 0 0 0;place 0 0 0;place 0 0 0;place 0 0 0;place 0 0 0;place 0 0 0;place 0 0 0;place 0 0 0;china 4
            habits(0) = 1023
            -- 0 and 8, then 1 and 9, then 7 alone, by eight PLACES
            seen(0, 14, 0) = 1
            habits(0) = 257
            forget() = 1
            seen(0, 1, 1) = 1
            habits(0) = 514
            forget() = 1
            seen(0, 7, 7) = 1
            habits(0) = 128
            seen(0, 7, 6) = 2
            habits(0) = 0
            hen(0, 1) = 4
            habits(-1) = UNKNOWN
            habits(1) = UNKNOWN
            new
            -- 0 .. 2 stay, 3 .. 9 go
            tell place 1 3 0;place 2 2 0;layer 5
            seen(0, 2, 0) = 1
            habits(0) = 7
            forget() = 1
            seen(0, 2, 1) = 1
            habits(0) = 1016
            new
            -- 9 alone is enough: 18 less 9 by 10
            tell place 1 9 0;place 2 5 0;layer 0
            seen(0, 2, 1) = 1
            habits(0) = 512
            new
            -- 0 alone is little enough: 11 less 0 by 10, of which less 1 would be as many, and 0 the first
            tell place 1 5 0;place 2 5 1;layer 0
            seen(0, 2, 1) = 1
            habits(0) = 1
            """);
    }

    private static void fromNow() {
        ROWS.sentence("(what she is taken for, from now on; all else as it is)", """
            tell place 1 3 0;place 2 2 0;layer 3
            day() = 1
            -- her last EGG was laid at 0, whatever she is from now on; and the DAY is odd
            seen(0, 1, 0) = 1
            kinds(0) = 4
            habits(0) = 7
            hen(0, 0) = 0
            hen(0, 1) = 3
            thunder() = 0
            kinds(0) = 0
            habits(0) = 0
            forget() = 1
            seen(0, 1, NONE) = 1
            kinds(0) = 15
            habits(0) = 1023
            """);
    }

    private static void foxesDays() {
        ROWS.sentence("FOXES: the odds that one lays an EGG that is RIGHT in n DAYS (0 .. 6)", """
            -- RIGHT on the sixth DAY alone
            tell place 1 0 0;layer 0;news 5 1
            foxes(0, -1, 0, 0) = OUTSIDE
            foxes(0, 0, 0, 0) = 0
            foxes(0, 0, 0, 1) = 1
            foxes(0, 5, 0, 0) = 0
            foxes(0, 5, 0, 1) = 1
            foxes(0, 6, 0, 0) = 1
            foxes(0, 6, 0, 1) = 1
            foxes(0, 6, 1, 0) = 531441
            foxes(0, 6, 1, 1) = 1000000
            foxes(0, 7, 0, 0) = OUTSIDE
            foxes(0, 7, 0, 1) = OUTSIDE
            new
            -- RIGHT on this DAY
            tell place 1 0 0;layer 0;news 0 1
            foxes(0, 0, 0, 0) = 0
            foxes(0, 1, 0, 0) = 1
            foxes(0, 1, 0, 1) = 1
            thunder() = 0
            foxes(0, 1, 0, 0) = 0
            foxes(0, 6, 0, 0) = 0
            new
            -- without a PLACE
            tell layer 0;news 0 1
            foxes(0, 6, 0, 0) = 0
            foxes(0, 6, 0, 1) = 1
            """);
    }

    private static void foxesTenths() {
        ROWS.sentence("FOXES: .. a fox takes her by q of ten (0 .. 10)", """
            tell place 1 0 0;layer 0;news 0 1
            foxes(0, 1, -1, 0) = OUTSIDE
            foxes(0, 1, 0, 0) = 1
            foxes(0, 1, 0, 1) = 1
            foxes(0, 1, 1, 0) = 9
            foxes(0, 1, 1, 1) = 10
            foxes(0, 1, 9, 0) = 1
            foxes(0, 1, 9, 1) = 10
            foxes(0, 1, 10, 0) = 0
            foxes(0, 1, 10, 1) = 1
            foxes(0, 1, 11, 0) = OUTSIDE
            foxes(0, 1, 11, 1) = OUTSIDE
            -- part 0 .. 1
            foxes(0, 1, 1, -1) = OUTSIDE
            foxes(0, 1, 1, 2) = OUTSIDE
            """);
    }

    private static void foxesOnce() {
        ROWS.sentence("FOXES: .. ahead of each of them, if it has not yet (all else as if it had not)", """
            -- RIGHT on the second DAY and the third: she need live through two of them
            tell place 1 0 0;layer 0;news 1 1;news 2 1
            foxes(0, 1, 5, 0) = 0
            foxes(0, 2, 5, 0) = 1
            foxes(0, 2, 5, 1) = 4
            foxes(0, 3, 5, 0) = 1
            foxes(0, 3, 5, 1) = 4
            foxes(0, 6, 5, 1) = 4
            new
            -- were the first one gone, the second one would be at 0 and RIGHT; yet all is as if she were not
            tell place 1 3 0;place 2 2 0;layer 0;layer 0;news 0 1
            foxes(0, 1, 5, 0) = 1
            foxes(0, 1, 5, 1) = 2
            foxes(1, 1, 5, 0) = 0
            foxes(1, 1, 10, 0) = 0
            """);
    }

    private static void unknown() {
        ROWS.sentence("UNKNOWN (no such PLACE, HEN; one and itself, where two are asked)", """
            tell place 1 3 0;place 2 2 0;layer 3
            place(2, 0) = UNKNOWN
            place(-1, 0) = UNKNOWN
            hen(1, 0) = UNKNOWN
            hen(-1, 0) = UNKNOWN
            as(1, 0) = UNKNOWN
            straw(2, 0) = UNKNOWN
            eat(2) = UNKNOWN
            heed(2) = UNKNOWN
            lays(1, 1) = UNKNOWN
            rights(1, 1) = UNKNOWN
            warmth(1, 0) = UNKNOWN
            warmth(0, 2) = UNKNOWN
            seen(1, 1, 0) = UNKNOWN
            seen(0, 1, 2) = UNKNOWN
            kinds(1) = UNKNOWN
            habits(1) = UNKNOWN
            foxes(1, 0, 0, 0) = UNKNOWN
            move(0, 0) = UNKNOWN
            move(1, 1) = UNKNOWN
            move(0, 2) = UNKNOWN
            -- a HEN and a PLACE of the same number are two
            warmth(0, 0) = 2
            """);
    }

    private static void outside() {
        ROWS.sentence("OUTSIDE (another number is not as told)", """
            tell place 1 3 0;place 2 2 0;layer 3
            write(-1) = OUTSIDE
            write(256) = OUTSIDE
            place(0, 4) = OUTSIDE
            hen(0, 5) = OUTSIDE
            news(14) = OUTSIDE
            as(0, 5) = OUTSIDE
            straw(0, 10) = OUTSIDE
            lays(0, 31) = OUTSIDE
            rights(0, 31) = OUTSIDE
            ask(31, 0) = OUTSIDE
            ask(0, 2) = OUTSIDE
            trough(21) = OUTSIDE
            seen(0, 15, 0) = OUTSIDE
            foxes(0, 7, 0, 0) = OUTSIDE
            foxes(0, 0, 11, 0) = OUTSIDE
            foxes(0, 0, 0, 2) = OUTSIDE
            count(13) = OUTSIDE
            """);
    }

    private static void notNow() {
        ROWS.sentence("NOT (not now: as told)", """
            tell layer 3
            as(0, 0) = NOT
            as(0, 2) = NOT
            yard() = NOT
            undo() = NOT
            back(0) = NOT
            tell place 1 3 0
            eat(0) = NOT
            heed(0) = NOT
            as(0, 2) = NOT
            -- now each of them can be
            write calm
            as(0, 0) = 10005
            day() = 1
            eat(0) = 1
            undo() = 1
            heed(0) = 9998
            keep(0) = 1
            back(0) = 1
            yard() = 1
            """);
    }

    private static void full() {
        ROWS.sentence("FULL", """
            tell place 1 3 0;layer 3
            160 times write(32)
            write(32) = FULL
            6 times seen(0, 1, 0)
            seen(0, 1, 0) = FULL
            -- the one does not hinder the other, nor anything else
            forget() = 6
            seen(0, 1, 0) = 1
            write(32) = FULL
            erase() = 160
            write(32) = 1
            """);
    }

    private static void firstThatFits() {
        ROWS.sentence("the first of these that fits", """
            -- UNKNOWN ahead of OUTSIDE
            tell place 1 3 0;layer 3
            place(1, 4) = UNKNOWN
            hen(1, 5) = UNKNOWN
            as(1, 5) = UNKNOWN
            straw(1, 10) = UNKNOWN
            lays(1, 31) = UNKNOWN
            rights(1, 31) = UNKNOWN
            seen(1, 15, 0) = UNKNOWN
            seen(0, 15, 1) = UNKNOWN
            foxes(1, 7, 11, 2) = UNKNOWN
            -- OUTSIDE ahead of NOT
            as(0, 5) = OUTSIDE
            -- UNKNOWN ahead of NOT
            as(1, 2) = UNKNOWN
            eat(1) = UNKNOWN
            heed(1) = UNKNOWN
            back(2) = UNKNOWN
            back(-1) = UNKNOWN
            -- UNKNOWN, OUTSIDE ahead of FULL
            6 times seen(0, 1, 0)
            seen(0, 1, 1) = UNKNOWN
            seen(1, 15, 0) = UNKNOWN
            seen(0, 15, 0) = OUTSIDE
            seen(0, 14, 0) = FULL
            160 times write(32)
            write(256) = OUTSIDE
            write(-1) = OUTSIDE
            write(255) = FULL
            new
            -- without a PLACE, of a KIND that is none and that she is not
            tell layer 3
            as(0, -1) = OUTSIDE
            as(0, 4) = NOT
            as(0, 0) = NOT
            """);
    }

    private static void lowestTerms() {
        ROWS.sentence("Parts are told in lowest terms: above (part 0), below (1)", """
            -- RIGHT on the second DAY: (10 - q) twice by 100
            tell place 1 0 0;layer 0;news 1 1
            foxes(0, 2, 0, 0) = 1
            foxes(0, 2, 0, 1) = 1
            foxes(0, 2, 1, 0) = 81
            foxes(0, 2, 1, 1) = 100
            foxes(0, 2, 2, 0) = 16
            foxes(0, 2, 2, 1) = 25
            foxes(0, 2, 3, 0) = 49
            foxes(0, 2, 3, 1) = 100
            foxes(0, 2, 4, 0) = 9
            foxes(0, 2, 4, 1) = 25
            foxes(0, 2, 5, 0) = 1
            foxes(0, 2, 5, 1) = 4
            foxes(0, 2, 6, 0) = 4
            foxes(0, 2, 6, 1) = 25
            foxes(0, 2, 7, 0) = 9
            foxes(0, 2, 7, 1) = 100
            foxes(0, 2, 8, 0) = 1
            foxes(0, 2, 8, 1) = 25
            foxes(0, 2, 9, 0) = 1
            foxes(0, 2, 9, 1) = 100
            foxes(0, 2, 10, 0) = 0
            foxes(0, 2, 10, 1) = 1
            """);
    }

    private static void belowNought() {
        ROWS.sentence("What may be below 0 is told with 9999 more", """
            count(6) = 9999
            tell place 1 0 1;layer 9;news 1 1
            -- 1, then 1 less 9
            as(0, 0) = 10000
            day() = 1
            as(0, 0) = 9991
            -- 1 less than 0, then 1 more than it
            heed(0) = 9998
            count(6) = 9998
            day() = 1
            heed(0) = 10000
            count(6) = 10000
            """);
    }

    private static void callsPromised() {
        ROWS.sentence("An object is used for at most 512 calls after it has been made", """
            tell place 1 3 0;place 2 2 0;layer 3
            -- 31 letters and yard() are 32 calls
            478 times day()
            count(2) = 478
            -- this is the last one
            lays(0, 30) = 1
            """);
    }
}
