/** Promises 1 to 29 in their order: what each call's own words name, at its bound, below it, beyond it. */
public final class CallBoundsTest {
    private static final Rows ROWS = new Rows();
    /** To and fro: 6 by 4, less 3 where she laid last. */
    private static final String TO_AND_FRO = "tell place 1 3 0;place 2 2 0;layer 3;news 0 1;news 1 1\n";

    public static void main(String[] args) {
        newObject();
        write();
        erase();
        fault();
        yard();
        place();
        hen();
        news();
        as();
        day();
        dayTheLast();
        thunder();
        straw();
        move();
        eat();
        heed();
        undo();
        undoLastEight();
        undoAmongRefused();
        keep();
        keepAll();
        back();
        backSinceTheLastText();
        lays();
        rights();
        ask();
        trough();
        warmth();
        seen();
        forget();
        kinds();
        habits();
        foxes();
        count();
        ROWS.end("CallBoundsTest");
    }

    private static void newObject() {
        ROWS.sentence("1 HenOracle(): An empty yard", """
            count(0) = 0
            count(1) = 0
            count(2) = 0
            count(3) = 0
            count(4) = 0
            count(5) = 0
            count(6) = 9999
            count(7) = 0
            count(8) = 0
            count(9) = 0
            count(10) = 0
            count(11) = 0
            count(12) = 0
            place(0, 0) = UNKNOWN
            hen(0, 0) = UNKNOWN
            news(0) = NONE
            news(13) = NONE
            undo() = NOT
            back(0) = NOT
            back(1) = NOT
            day() = 0
            count(2) = 1
            """);
    }

    private static void write() {
        ROWS.sentence("2 write: A letter (its number, 0 .. 255) more: how many it has. OUTSIDE; FULL", """
            write(-1) = OUTSIDE
            write(256) = OUTSIDE
            write(MIN) = OUTSIDE
            write(MAX) = OUTSIDE
            count(12) = 0
            write(0) = 1
            write(255) = 2
            write(1) = 3
            write(254) = 4
            155 times write(32)
            write(32) = 160
            write(0) = FULL
            write(255) = FULL
            write(-1) = OUTSIDE
            write(256) = OUTSIDE
            count(12) = 160
            """);
    }

    private static void erase() {
        ROWS.sentence("3 erase: THE TEXT is empty: how many letters it had", """
            erase() = 0
            write(120) = 1
            erase() = 1
            count(12) = 0
            erase() = 0
            160 times write(120)
            erase() = 160
            count(12) = 0
            -- nothing of it is left, and all else stays
            write calm
            fault() = NONE
            yard() = 1
            tell place 1 3 0;layer 3
            day() = 1
            seen(0, 1, 0) = 1
            keep(0) = 1
            write xy
            erase() = 2
            count(2) = 1
            count(3) = 1
            count(10) = 1
            count(11) = 1
            back(0) = 1
            """);
        ROWS.sentence("3 erase: letters that were erased are not read behind the end", """
            write calm;calm
            erase() = 9
            write calm
            fault() = NONE
            erase() = 4
            write layer 19
            erase() = 8
            write layer 1
            fault() = NONE
            erase() = 7
            write calmly
            erase() = 6
            write calm
            fault() = NONE
            erase() = 4
            write place 1 1 1
            erase() = 11
            write place 1 1
            fault() = 9
            """);
    }

    private static void fault() {
        ROWS.sentence("4 fault: the letter with which the TOKEN begins, or the length; NONE", """
            fault() = 0
            write fox
            fault() = 0
            erase() = 3
            write   fox
            fault() = 2
            erase() = 5
            write calm  ;  layer  12
            fault() = 16
            erase() = 18
            write calm;
            fault() = 5
            write   layer
            fault() = 12
            write  9
            fault() = NONE
            -- it is asked, not done
            count(12) = 14
            count(1) = 0
            yard() = 2
            fault() = 0
            """);
    }

    private static void yard() {
        ROWS.sentence("5 yard: CLAUSES are done, and it is empty then: how many there were. NOT: it has a FAULT", """
            yard() = NOT
            write calm
            yard() = 1
            count(12) = 0
            yard() = NOT
            write place 1 3 0;layer 3;
            yard() = NOT
            count(12) = 20
            count(0) = 0
            write news 0 1
            yard() = 3
            count(12) = 0
            count(0) = 1
            write yard;yard;yard;yard;yard;yard;yard;yard;yard;yard;yard;yard;yard;yard
            yard() = 14
            count(0) = 0
            """);
        ROWS.sentence("5 yard: NOT, and nothing changes, though all but the last TOKEN can stand", TO_AND_FRO + """
            day() = 1
            eat(0) = 1
            keep(0) = 1
            seen(0, 1, 1) = 1
            straw(0, 9) = 3
            write yard;place 7 7 7;china 1;news 2 2;calm;fox
            yard() = NOT
            count(0) = 2
            count(1) = 1
            news(2) = NONE
            news(0) = 1
            count(2) = 1
            count(4) = 1
            count(10) = 1
            count(11) = 3
            count(12) = 42
            place(0, 1) = 9
            back(0) = 1
            """);
    }

    private static void place() {
        ROWS.sentence("6 place: MEANING (what 0), WARM (1), LIGHT (2), whose EGG is there (3; NONE). UNKNOWN; OUTSIDE", """
            tell place 7 8 9;place 0 0 0;layer 0
            place(0, -1) = OUTSIDE
            place(0, 0) = 7
            place(0, 1) = 8
            place(0, 2) = 9
            place(0, 3) = NONE
            place(0, 4) = OUTSIDE
            place(0, MIN) = OUTSIDE
            place(0, MAX) = OUTSIDE
            place(1, 0) = 0
            place(1, 3) = NONE
            place(1, 4) = OUTSIDE
            place(2, 0) = UNKNOWN
            place(-1, 0) = UNKNOWN
            place(2, 4) = UNKNOWN
            place(-1, -1) = UNKNOWN
            place(MIN, 0) = UNKNOWN
            place(MAX, 0) = UNKNOWN
            day() = 1
            place(0, 3) = 0
            place(1, 3) = NONE
            eat(0) = 1
            place(0, 3) = NONE
            """);
    }

    private static void hen() {
        ROWS.sentence("7 hen: KIND, HABIT, where her last EGG was laid (2; NONE), RIGHT ones, WRONG ones. UNKNOWN; OUTSIDE", """
            tell place 1 3 0;place 2 2 0;china 9;layer 0;news 0 2
            hen(0, -1) = OUTSIDE
            hen(0, 0) = 3
            hen(0, 1) = 9
            hen(0, 2) = NONE
            hen(0, 3) = 0
            hen(0, 4) = 0
            hen(0, 5) = OUTSIDE
            hen(0, MIN) = OUTSIDE
            hen(0, MAX) = OUTSIDE
            hen(1, 5) = OUTSIDE
            hen(2, 0) = UNKNOWN
            hen(-1, 0) = UNKNOWN
            hen(2, 5) = UNKNOWN
            hen(MIN, 0) = UNKNOWN
            hen(MAX, 0) = UNKNOWN
            day() = 3
            hen(0, 2) = 1
            hen(0, 3) = 1
            hen(0, 4) = 0
            hen(1, 2) = 0
            hen(1, 3) = 0
            hen(1, 4) = 1
            -- THUNDER, and an EGG that is EATEN, leave her last one
            eat(1) = 1
            thunder() = 0
            day() = 0
            hen(0, 2) = 1
            hen(0, 3) = 1
            hen(0, 4) = 0
            """);
    }

    private static void news() {
        ROWS.sentence("8 news: NEWS of a DAY (0 .. 13); NONE. OUTSIDE", """
            news(0) = NONE
            news(13) = NONE
            tell news 0 7;news 13 0
            news(-1) = OUTSIDE
            news(0) = 7
            news(1) = NONE
            news(13) = 0
            news(14) = OUTSIDE
            news(MIN) = OUTSIDE
            news(MAX) = OUTSIDE
            -- by the number told, whatever DAY it is
            15 times day()
            news(0) = 7
            news(14) = OUTSIDE
            """);
    }

    private static void as() {
        ROWS.sentence("9 as: a KIND (0 .. 4): how she LIKES PLACE 0. UNKNOWN; OUTSIDE; NOT: she is none such, there is no PLACE", """
            as(0, 0) = UNKNOWN
            tell layer 9
            as(0, 0) = NOT
            as(0, 1) = NOT
            as(0, 2) = NOT
            as(0, -1) = OUTSIDE
            as(0, 5) = OUTSIDE
            as(1, 5) = UNKNOWN
            as(1, 0) = UNKNOWN
            as(-1, 0) = UNKNOWN
            tell place 0 0 1;place 0 9 9
            as(0, 0) = 10000
            as(0, 1) = 10000
            as(0, 2) = NOT
            as(0, 4) = NOT
            as(0, -1) = OUTSIDE
            as(0, 5) = OUTSIDE
            as(0, MIN) = OUTSIDE
            as(0, MAX) = OUTSIDE
            as(MIN, 0) = UNKNOWN
            as(MAX, 0) = UNKNOWN
            """);
        ROWS.sentence("9 as: of every KIND as the HEN she is", """
            tell place 0 1 0;broody 1
            day() = 1
            -- 2 less 1 and 9 more
            as(0, 2) = 10009
            as(0, 1) = 10009
            as(0, 0) = 10009
            -- THUNDER and an odd DAY do not change what she LIKES
            thunder() = 0
            as(0, 2) = 10009
            """);
    }

    private static void day() {
        ROWS.sentence("10 day: A DAY: PLACES where EGGS were laid (bits)", """
            day() = 0
            tell place 0 0 0;place 0 0 0;place 0 0 0;place 0 0 0;place 0 0 0;place 0 0 0;place 0 0 0
            day() = 0
            tell place 0 9 9;layer 0
            day() = 128
            tell layer 0;layer 0;layer 0;layer 0
            day() = 143
            eat(7) = 1
            count(3) = 15
            day() = 143
            thunder() = 0
            day() = 0
            """);
    }

    /** The document names this edge, though none of 512 calls can come to it. */
    private static void dayTheLast() {
        ROWS.sentence("10 day: FULL: it is DAY 999", """
            tell place 1 3 0;place 2 2 0;layer 3
            beyond 512
            998 times day()
            count(2) = 998
            day() = 1
            count(2) = 999
            day() = FULL
            count(2) = 999
            count(3) = 1
            count(11) = 8
            -- all else can be
            thunder() = 0
            day() = FULL
            count(9) = 1
            undo() = 7
            undo() = 6
            count(2) = 998
            day() = 1
            day() = FULL
            """);
    }

    private static void thunder() {
        ROWS.sentence("11 thunder: It THUNDERS on this DAY: 1 if it did already, 0", TO_AND_FRO + """
            count(9) = 0
            thunder() = 0
            count(9) = 1
            thunder() = 1
            thunder() = 1
            count(9) = 1
            count(11) = 3
            undo() = 2
            count(9) = 1
            undo() = 1
            undo() = 0
            count(9) = 0
            thunder() = 0
            day() = 0
            count(9) = 0
            thunder() = 0
            """);
    }

    private static void straw() {
        ROWS.sentence("12 straw: WARM is w (0 .. 9): what it was. UNKNOWN; OUTSIDE", TO_AND_FRO + """
            straw(0, -1) = OUTSIDE
            straw(0, 10) = OUTSIDE
            straw(0, MIN) = OUTSIDE
            straw(0, MAX) = OUTSIDE
            place(0, 1) = 3
            straw(0, 0) = 3
            place(0, 1) = 0
            straw(0, 9) = 0
            place(0, 1) = 9
            place(1, 1) = 2
            straw(2, 0) = UNKNOWN
            straw(-1, 0) = UNKNOWN
            straw(2, 10) = UNKNOWN
            straw(-1, -1) = UNKNOWN
            straw(MIN, 0) = UNKNOWN
            straw(MAX, 0) = UNKNOWN
            count(11) = 2
            """);
    }

    private static void move() {
        ROWS.sentence("13 move: the MEANING of the first one then. UNKNOWN", """
            move(0, 1) = UNKNOWN
            move(0, 0) = UNKNOWN
            tell place 1 0 0
            move(0, 0) = UNKNOWN
            move(0, 1) = UNKNOWN
            tell place 2 0 0
            move(0, 1) = 2
            place(0, 0) = 2
            place(1, 0) = 1
            move(0, 1) = 1
            move(1, 0) = 1
            place(0, 0) = 2
            move(0, 2) = UNKNOWN
            move(2, 0) = UNKNOWN
            move(0, -1) = UNKNOWN
            move(-1, 0) = UNKNOWN
            move(-1, -1) = UNKNOWN
            move(2, 2) = UNKNOWN
            move(MIN, MAX) = UNKNOWN
            count(11) = 3
            """);
    }

    private static void eat() {
        ROWS.sentence("14 eat: The EGG is EATEN: how many were. UNKNOWN; NOT: there is none", """
            tell place 1 3 0;place 2 2 0;place 3 1 0;layer 0;layer 0
            eat(0) = NOT
            day() = 3
            eat(-1) = UNKNOWN
            eat(3) = UNKNOWN
            eat(MIN) = UNKNOWN
            eat(MAX) = UNKNOWN
            eat(2) = NOT
            count(4) = 0
            eat(0) = 1
            eat(0) = NOT
            eat(1) = 2
            eat(1) = NOT
            count(4) = 2
            count(5) = 0
            count(3) = 0
            day() = 3
            eat(0) = 3
            """);
    }

    private static void heed() {
        ROWS.sentence("15 heed: The EGG is HEEDED: FORTUNE, and 9999. UNKNOWN; NOT: there is none", """
            tell place 1 3 0;place 2 2 0;place 3 1 0;layer 0;layer 0;news 1 1
            heed(0) = NOT
            day() = 3
            heed(-1) = UNKNOWN
            heed(3) = UNKNOWN
            heed(MIN) = UNKNOWN
            heed(MAX) = UNKNOWN
            heed(2) = NOT
            count(5) = 0
            count(6) = 9999
            heed(0) = 9998
            heed(0) = NOT
            eat(1) = 1
            heed(1) = NOT
            count(5) = 1
            day() = 3
            heed(0) = 10000
            heed(1) = 9999
            count(5) = 3
            count(6) = 9999
            """);
    }

    private static void undo() {
        ROWS.sentence("16 undo: The latest day(), thunder(), straw(), move(), eat(), heed() is undone. NOT: none", TO_AND_FRO + """
            undo() = NOT
            day() = 1
            undo() = 0
            undo() = NOT
            count(2) = 0
            count(3) = 0
            count(7) = 0
            hen(0, 2) = NONE
            thunder() = 0
            undo() = 0
            count(9) = 0
            straw(0, 9) = 3
            undo() = 0
            place(0, 1) = 3
            move(0, 1) = 2
            undo() = 0
            place(0, 0) = 1
            place(1, 0) = 2
            day() = 1
            eat(0) = 1
            undo() = 1
            count(4) = 0
            place(0, 3) = 0
            heed(0) = 10001
            undo() = 1
            count(5) = 0
            count(6) = 9999
            place(0, 3) = 0
            -- the EGG is as RIGHT as it was
            heed(0) = 10001
            undo() = 1
            -- THUNDER that was over is there again
            thunder() = 0
            day() = 0
            undo() = 2
            count(9) = 1
            count(3) = 1
            new
            -- a WRONG EGG was laid where the RIGHT one lay
            tell place 1 3 0;layer 0;news 0 1
            2 times day()
            heed(0) = 9998
            undo() = 2
            undo() = 1
            heed(0) = 10001
            """);
    }

    private static void undoLastEight() {
        ROWS.sentence("16 undo: (the last 8 can be): how many can be undone yet", TO_AND_FRO + """
            straw(0, 1) = 3
            straw(0, 2) = 1
            straw(0, 3) = 2
            straw(0, 4) = 3
            straw(0, 5) = 4
            straw(0, 6) = 5
            straw(0, 7) = 6
            count(11) = 7
            straw(0, 8) = 7
            count(11) = 8
            straw(0, 9) = 8
            count(11) = 8
            straw(0, 0) = 9
            count(11) = 8
            undo() = 7
            place(0, 1) = 9
            undo() = 6
            place(0, 1) = 8
            undo() = 5
            undo() = 4
            undo() = 3
            undo() = 2
            undo() = 1
            place(0, 1) = 3
            undo() = 0
            -- the two oldest of ten stay
            place(0, 1) = 2
            undo() = NOT
            place(0, 1) = 2
            -- and there is room for eight again
            8 times day()
            count(11) = 8
            undo() = 7
            count(2) = 7
            day() = 2
            day() = 1
            count(11) = 8
            """);
        ROWS.sentence("16 undo: exactly eight, all of them", TO_AND_FRO + """
            8 times day()
            8 times undo()
            count(2) = 0
            count(11) = 0
            undo() = NOT
            """);
    }

    private static void undoAmongRefused() {
        ROWS.sentence("16 undo: what was refused, and what is not among the six, is not undone", TO_AND_FRO + """
            day() = 1
            straw(0, 10) = OUTSIDE
            straw(2, 0) = UNKNOWN
            move(1, 1) = UNKNOWN
            eat(1) = NOT
            heed(1) = NOT
            count(11) = 1
            keep(0) = 1
            seen(0, 1, 0) = 1
            forget() = 1
            seen(0, 1, 1) = 1
            write calm
            erase() = 4
            write yard
            count(11) = 1
            undo() = 0
            count(2) = 0
            count(10) = 1
            count(12) = 4
            back(0) = 1
            """);
    }

    private static void keep() {
        ROWS.sentence("17 keep: All as it is is kept (k 0, 1): the DAY. UNKNOWN: no such k", TO_AND_FRO + """
            keep(-1) = UNKNOWN
            keep(2) = UNKNOWN
            keep(MIN) = UNKNOWN
            keep(MAX) = UNKNOWN
            back(0) = NOT
            back(1) = NOT
            keep(0) = 0
            back(1) = NOT
            3 times day()
            keep(1) = 3
            keep(2) = UNKNOWN
            day() = 2
            back(0) = 0
            back(1) = 3
            back(0) = 0
            -- kept once more
            day() = 1
            keep(0) = 1
            day() = 2
            back(0) = 1
            back(1) = 3
            new
            -- of an empty yard
            keep(0) = 0
            keep(1) = 0
            day() = 0
            back(1) = 0
            """);
    }

    private static void keepAll() {
        ROWS.sentence("17 keep: All as it is (but SEEN, what can be undone)", TO_AND_FRO + """
            day() = 1
            heed(0) = 10001
            day() = 2
            eat(1) = 1
            day() = 1
            straw(0, 7) = 3
            move(0, 1) = 2
            thunder() = 0
            seen(0, 1, 0) = 1
            keep(0) = 3
            -- what can be undone stays
            count(11) = 8
            day() = 0
            day() = 1
            heed(0) = 10000
            straw(0, 0) = 7
            move(0, 1) = 1
            seen(0, 2, 0) = 2
            back(0) = 3
            count(2) = 3
            count(3) = 1
            count(4) = 1
            count(5) = 1
            count(6) = 10001
            count(7) = 1
            count(8) = 2
            count(9) = 1
            place(0, 0) = 2
            place(1, 0) = 1
            place(0, 1) = 7
            place(0, 3) = 0
            hen(0, 2) = 0
            hen(0, 3) = 1
            hen(0, 4) = 2
            -- SEEN is as it is now
            count(10) = 2
            -- the EGG that was kept is as WRONG as it was
            heed(0) = 10000
            new
            -- a WRONG EGG was laid where the RIGHT one was kept
            tell place 1 3 0;layer 0;news 0 1
            day() = 1
            keep(1) = 1
            day() = 1
            back(1) = 1
            heed(0) = 10001
            """);
    }

    private static void back() {
        ROWS.sentence("18 back: It is as it was kept, nothing can be undone: the DAY. UNKNOWN", TO_AND_FRO + """
            day() = 1
            keep(0) = 1
            2 times day()
            count(11) = 3
            back(-1) = UNKNOWN
            back(2) = UNKNOWN
            back(MIN) = UNKNOWN
            back(MAX) = UNKNOWN
            back(1) = NOT
            count(2) = 3
            count(11) = 3
            back(0) = 1
            count(11) = 0
            undo() = NOT
            count(2) = 1
            -- as often as one likes; what is done then is not done in what is kept
            straw(0, 9) = 3
            count(11) = 1
            back(0) = 1
            place(0, 1) = 3
            undo() = NOT
            """);
    }

    private static void backSinceTheLastText() {
        ROWS.sentence("18 back: NOT: nothing was kept since the last text", TO_AND_FRO + """
            back(0) = NOT
            back(1) = NOT
            keep(0) = 0
            keep(1) = 0
            -- a text that is refused, or erased, is none
            write fox
            yard() = NOT
            back(0) = 0
            erase() = 3
            back(1) = 0
            tell calm
            back(0) = NOT
            back(1) = NOT
            keep(1) = 0
            back(0) = NOT
            back(1) = 0
            """);
    }

    private static void lays() {
        ROWS.sentence("19 lays: LAYS; NONE. UNKNOWN; OUTSIDE", TO_AND_FRO + """
            lays(0, 0) = OUTSIDE
            lays(0, 1) = 0
            lays(0, 30) = 1
            lays(0, 31) = OUTSIDE
            lays(0, MIN) = OUTSIDE
            lays(0, MAX) = OUTSIDE
            lays(1, 1) = UNKNOWN
            lays(-1, 1) = UNKNOWN
            lays(1, 0) = UNKNOWN
            lays(-1, 31) = UNKNOWN
            lays(MIN, 1) = UNKNOWN
            lays(MAX, 1) = UNKNOWN
            thunder() = 0
            lays(0, 1) = NONE
            lays(0, 2) = 0
            """);
    }

    private static void rights() {
        ROWS.sentence("20 rights: RIGHTS. UNKNOWN; OUTSIDE", TO_AND_FRO + """
            rights(0, -1) = OUTSIDE
            rights(0, 0) = 0
            rights(0, 1) = 1
            rights(0, 14) = 1
            rights(0, 15) = 2
            rights(0, 28) = 2
            rights(0, 29) = 3
            rights(0, 30) = 3
            rights(0, 31) = OUTSIDE
            rights(0, MIN) = OUTSIDE
            rights(0, MAX) = OUTSIDE
            rights(1, 0) = UNKNOWN
            rights(-1, 0) = UNKNOWN
            rights(1, 31) = UNKNOWN
            rights(-1, -1) = UNKNOWN
            rights(MIN, 0) = UNKNOWN
            rights(MAX, 0) = UNKNOWN
            """);
    }

    private static void ask() {
        ROWS.sentence("21 ask: ASK (n 0 .. 30): the HEN (what 0), how many (1); NONE. OUTSIDE", """
            ask(0, 0) = NONE
            ask(0, 1) = NONE
            ask(-1, 0) = OUTSIDE
            ask(0, 2) = OUTSIDE
            tell place 1 3 0;place 2 2 0;layer 0;layer 0;news 0 2
            ask(-1, 0) = OUTSIDE
            ask(0, 0) = 0
            ask(0, 1) = 0
            ask(1, 0) = 1
            ask(1, 1) = 1
            ask(28, 1) = 2
            ask(29, 1) = 3
            ask(30, 0) = 1
            ask(30, 1) = 3
            ask(31, 1) = OUTSIDE
            ask(30, -1) = OUTSIDE
            ask(30, 2) = OUTSIDE
            ask(MIN, 0) = OUTSIDE
            ask(MAX, 0) = OUTSIDE
            ask(0, MIN) = OUTSIDE
            ask(0, MAX) = OUTSIDE
            """);
    }

    private static void trough() {
        ROWS.sentence("22 trough: TROUGH; NONE. OUTSIDE", """
            trough(0) = OUTSIDE
            trough(1) = NONE
            trough(20) = NONE
            trough(21) = OUTSIDE
            tell place 1 3 0;place 2 2 0;layer 0;news 0 2
            trough(-1) = OUTSIDE
            trough(0) = OUTSIDE
            trough(1) = 1
            trough(20) = 1
            trough(21) = OUTSIDE
            trough(MIN) = OUTSIDE
            trough(MAX) = OUTSIDE
            place(0, 0) = 1
            """);
    }

    private static void warmth() {
        ROWS.sentence("23 warmth: WARMTH; NONE. UNKNOWN", TO_AND_FRO + """
            warmth(0, 0) = 2
            warmth(0, 1) = 4
            warmth(0, 2) = UNKNOWN
            warmth(0, -1) = UNKNOWN
            warmth(1, 0) = UNKNOWN
            warmth(-1, 0) = UNKNOWN
            warmth(MIN, MAX) = UNKNOWN
            warmth(0, MIN) = UNKNOWN
            warmth(MAX, 0) = UNKNOWN
            place(0, 1) = 3
            thunder() = 0
            warmth(0, 0) = NONE
            """);
    }

    private static void seen() {
        ROWS.sentence("24 seen: SEEN: how many. UNKNOWN (the PLACE may be NONE); OUTSIDE; FULL", TO_AND_FRO + """
            seen(0, 0, 0) = OUTSIDE
            seen(0, 15, 0) = OUTSIDE
            seen(0, MIN, 0) = OUTSIDE
            seen(0, MAX, 0) = OUTSIDE
            seen(1, 1, 0) = UNKNOWN
            seen(-1, 1, 0) = UNKNOWN
            seen(-1, 1, NONE) = UNKNOWN
            seen(0, 1, 2) = UNKNOWN
            seen(0, 1, -2) = UNKNOWN
            seen(0, 0, 2) = UNKNOWN
            seen(0, 15, -2) = UNKNOWN
            count(10) = 0
            seen(0, 1, 0) = 1
            seen(0, 14, 1) = 2
            seen(0, 1, NONE) = 3
            seen(0, 14, NONE) = 4
            seen(0, 2, 1) = 5
            seen(0, 3, 0) = 6
            seen(0, 4, 1) = FULL
            seen(0, 4, NONE) = FULL
            seen(0, 0, 0) = OUTSIDE
            seen(0, 15, 0) = OUTSIDE
            seen(0, 1, 2) = UNKNOWN
            seen(1, 1, 0) = UNKNOWN
            count(10) = 6
            """);
    }

    private static void forget() {
        ROWS.sentence("25 forget: SEEN is nothing: how many there were", TO_AND_FRO + """
            forget() = 0
            seen(0, 1, 1) = 1
            kinds(0) = 8
            forget() = 1
            forget() = 0
            count(10) = 0
            kinds(0) = 15
            habits(0) = 1023
            6 times seen(0, 1, 0)
            forget() = 6
            seen(0, 1, 0) = 1
            """);
    }

    private static void kinds() {
        ROWS.sentence("26 kinds: KINDS, by bits. UNKNOWN", TO_AND_FRO + """
            kinds(-1) = UNKNOWN
            kinds(0) = 15
            kinds(1) = UNKNOWN
            kinds(MIN) = UNKNOWN
            kinds(MAX) = UNKNOWN
            seen(0, 1, 1) = 1
            seen(0, 1, 0) = 2
            kinds(0) = 0
            kinds(1) = UNKNOWN
            """);
    }

    private static void habits() {
        ROWS.sentence("27 habits: HABITS, by bits. UNKNOWN", TO_AND_FRO + """
            habits(-1) = UNKNOWN
            habits(0) = 1023
            habits(1) = UNKNOWN
            habits(MIN) = UNKNOWN
            habits(MAX) = UNKNOWN
            seen(0, 1, 1) = 1
            habits(0) = 0
            habits(1) = UNKNOWN
            """);
    }

    private static void foxes() {
        ROWS.sentence("28 foxes: FOXES. UNKNOWN; OUTSIDE", TO_AND_FRO + """
            foxes(0, 0, 0, 0) = 0
            foxes(0, 6, 0, 1) = 1
            foxes(0, 6, 10, 0) = 0
            foxes(0, -1, 0, 0) = OUTSIDE
            foxes(0, 7, 0, 0) = OUTSIDE
            foxes(0, 0, -1, 0) = OUTSIDE
            foxes(0, 0, 11, 0) = OUTSIDE
            foxes(0, 0, 0, -1) = OUTSIDE
            foxes(0, 0, 0, 2) = OUTSIDE
            foxes(0, MIN, MAX, 0) = OUTSIDE
            foxes(1, 0, 0, 0) = UNKNOWN
            foxes(-1, 0, 0, 0) = UNKNOWN
            foxes(1, 7, 11, 2) = UNKNOWN
            foxes(-1, -1, -1, -1) = UNKNOWN
            foxes(MIN, 0, 0, 0) = UNKNOWN
            foxes(MAX, 0, 0, 0) = UNKNOWN
            """);
    }

    private static void count() {
        ROWS.sentence("29 count: 0 PLACES .. 12 letters of THE TEXT. OUTSIDE", """
            count(-1) = OUTSIDE
            count(13) = OUTSIDE
            count(MIN) = OUTSIDE
            count(MAX) = OUTSIDE
            tell place 1 3 0;place 2 2 0;place 3 1 0;layer 0;layer 0;news 0 1;news 1 1
            day() = 3
            heed(0) = 10001
            day() = 3
            eat(0) = 1
            thunder() = 0
            seen(0, 1, 0) = 1
            seen(1, 1, 0) = 2
            write calm
            count(0) = 3
            count(1) = 2
            count(2) = 2
            count(3) = 2
            count(4) = 1
            count(5) = 1
            count(6) = 10001
            count(7) = 2
            count(8) = 2
            count(9) = 1
            count(10) = 2
            count(11) = 5
            count(12) = 4
            """);
    }
}
