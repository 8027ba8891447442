/** Every sentence of the document's part 1, THE TEXT in it, that names a bound: at it, below it, beyond it. */
public final class TextBoundsTest {
    private static final Rows ROWS = new Rows();

    public static void main(String[] args) {
        places();
        meanings();
        warm();
        light();
        hens();
        kinds();
        habits();
        news();
        newsRound();
        letters();
        fullText();
        clauses();
        words();
        spelling();
        yardClause();
        ninthPlace();
        sixthHen();
        newsClause();
        calmClause();
        smallLetters();
        digits();
        blanks();
        earlierTexts();
        firstFault();
        tooSoon();
        order();
        behindTheClauses();
        ROWS.end("TextBoundsTest");
    }

    private static void places() {
        ROWS.sentence("PLACES are 0, 1 .. as they come, 8 at most (none at first)", """
            count(0) = 0
            place(0, 0) = UNKNOWN
            tell place 0 0 0
            count(0) = 1
            place(-1, 0) = UNKNOWN
            place(0, 0) = 0
            place(1, 0) = UNKNOWN
            tell place 1 0 0;place 2 0 0;place 3 0 0;place 4 0 0;place 5 0 0;place 6 0 0
            count(0) = 7
            place(6, 0) = 6
            place(7, 0) = UNKNOWN
            tell place 7 0 0
            count(0) = 8
            place(0, 0) = 0
            place(7, 0) = 7
            place(8, 0) = UNKNOWN
            write place 0 0 0
            fault() = 0
            yard() = NOT
            count(0) = 8
            """);
    }

    private static void meanings() {
        ROWS.sentence("a MEANING (0 .. 7)", """
            tell place 0 9 9;place 7 9 9
            place(0, 0) = 0
            place(1, 0) = 7
            write place 8 9 9
            fault() = 6
            yard() = NOT
            erase() = 11
            write place 10 9 9
            fault() = 6
            erase() = 12
            -- less than 0 cannot even be written
            write place -1 9 9
            fault() = 6
            yard() = NOT
            """);
    }

    private static void warm() {
        ROWS.sentence("WARM (0 .. 9)", """
            tell place 1 0 1;place 1 9 1
            place(0, 1) = 0
            place(1, 1) = 9
            write place 1 10 1
            fault() = 8
            yard() = NOT
            erase() = 12
            write place 1 -1 1
            fault() = 8
            yard() = NOT
            """);
    }

    private static void light() {
        ROWS.sentence("LIGHT (0 .. 9)", """
            tell place 1 1 0;place 1 1 9
            place(0, 2) = 0
            place(1, 2) = 9
            write place 1 1 10
            fault() = 10
            yard() = NOT
            erase() = 12
            write place 1 1 -1
            fault() = 10
            yard() = NOT
            """);
    }

    private static void hens() {
        ROWS.sentence("HENS are 0, 1 .. as they come, 5 at most", """
            count(1) = 0
            hen(0, 1) = UNKNOWN
            tell layer 1
            count(1) = 1
            hen(-1, 1) = UNKNOWN
            hen(0, 1) = 1
            hen(1, 1) = UNKNOWN
            tell china 2;pullet 3;broody 4
            count(1) = 4
            hen(3, 1) = 4
            hen(4, 1) = UNKNOWN
            tell layer 5
            count(1) = 5
            hen(0, 1) = 1
            hen(4, 1) = 5
            hen(5, 1) = UNKNOWN
            write layer 6
            fault() = 0
            yard() = NOT
            count(1) = 5
            """);
    }

    private static void kinds() {
        ROWS.sentence("of a KIND, 0 LAYER, 1 BROODY, 2 PULLET, 3 CHINA", """
            tell china 0;pullet 0;broody 0;layer 0
            hen(0, 0) = 3
            hen(1, 0) = 2
            hen(2, 0) = 1
            hen(3, 0) = 0
            write hen 0
            fault() = 0
            yard() = NOT
            """);
    }

    private static void habits() {
        for (String kind : new String[] {"layer", "broody", "pullet", "china"}) {
            ROWS.sentence("with a HABIT (0 .. 9), of a KIND", ("""
                tell KIND 0;KIND 9
                hen(0, 1) = 0
                hen(1, 1) = 9
                write KIND 10
                fault() = BEHIND
                yard() = NOT
                erase() = ALL
                write KIND -1
                fault() = BEHIND
                yard() = NOT
                """).replace("KIND", kind).replace("BEHIND", "" + (kind.length() + 1))
                .replace("ALL", "" + (kind.length() + 3)));
        }
    }

    private static void news() {
        StringBuilder all = new StringBuilder();
        for (int day = 0; day <= 13; day++) {
            all.append("news(").append(day).append(") = NONE\n");
        }
        ROWS.sentence("NEWS: a MEANING, or none (all at first)", all.toString());
        ROWS.sentence("NEWS of DAYS 0 .. 13: a MEANING, or none", """
            tell news 0 0;news 13 7
            news(-1) = OUTSIDE
            news(0) = 0
            news(1) = NONE
            news(12) = NONE
            news(13) = 7
            news(14) = OUTSIDE
            write news 14 0
            fault() = 5
            yard() = NOT
            erase() = 9
            write news -1 0
            fault() = 5
            yard() = NOT
            erase() = 9
            write news 0 8
            fault() = 7
            yard() = NOT
            """);
    }

    private static void newsRound() {
        ROWS.sentence("NEWS (of all DAYS that leave as much over by 14)", """
            tell place 3 0 0;layer 0;news 0 3;news 13 3
            day() = 1
            hen(0, 3) = 1
            12 times day()
            hen(0, 3) = 1
            hen(0, 4) = 12
            -- DAY 13, then 14, which is as 0, then 15, which is as 1
            count(2) = 13
            day() = 1
            hen(0, 3) = 2
            day() = 1
            hen(0, 3) = 3
            day() = 1
            hen(0, 3) = 3
            11 times day()
            -- DAYS 27, 28, 29
            count(2) = 27
            hen(0, 3) = 3
            day() = 1
            hen(0, 3) = 4
            day() = 1
            hen(0, 3) = 5
            day() = 1
            hen(0, 3) = 5
            """);
    }

    private static void letters() {
        ROWS.sentence("THE TEXT is a row of letters, 160 at most", """
            count(12) = 0
            write(0) = 1
            count(12) = 1
            write(255) = 2
            156 times write(97)
            write(98) = 159
            write(99) = 160
            count(12) = 160
            write(100) = FULL
            write(0) = FULL
            count(12) = 160
            erase() = 160
            write(97) = 1
            """);
    }

    /** A text of 160 letters is read to its very last one. */
    private static void fullText() {
        ROWS.sentence("THE TEXT: 160 letters without a FAULT", """
            write calm;
            148 times write(32)
            write layer 9
            count(12) = 160
            fault() = NONE
            write(32) = FULL
            yard() = 2
            hen(0, 1) = 9
            """);
        ROWS.sentence("THE TEXT: a FAULT at the last of 160 letters", """
            write calm
            155 times write(32)
            write x
            fault() = 159
            write(32) = FULL
            yard() = NOT
            """);
        ROWS.sentence("THE TEXT: a FAULT at the end of 160 letters", """
            write calm
            155 times write(32)
            write ;
            fault() = 160
            yard() = NOT
            new
            write layer
            155 times write(32)
            fault() = 160
            new
            159 times write(32)
            fault() = 159
            write(32) = 160
            fault() = 160
            new
            -- a row of letters and one of digits that reach the end
            160 times write(97)
            fault() = 0
            new
            write layer
            155 times write(48)
            fault() = 5
            """);
    }

    private static void clauses() {
        ROWS.sentence("CLAUSES with ; between, 14 at most", """
            fault() = 0
            yard() = NOT
            write calm
            fault() = NONE
            yard() = 1
            write calm;calm;calm;calm;calm;calm;calm;calm;calm;calm;calm;calm;calm
            yard() = 13
            write calm;calm;calm;calm;calm;calm;calm;calm;calm;calm;calm;calm;calm;calm
            fault() = NONE
            yard() = 14
            -- it is the ; that cannot stand behind the fourteenth
            write calm;calm;calm;calm;calm;calm;calm;calm;calm;calm;calm;calm;calm;calm;calm
            fault() = 69
            yard() = NOT
            erase() = 74
            write calm;calm;calm;calm;calm;calm;calm;calm;calm;calm;calm;calm;calm;calm ;
            fault() = 70
            yard() = NOT
            erase() = 71
            write calm;calm;calm;calm;calm;calm;calm;calm;calm;calm;calm;calm;calm;calm x
            fault() = 70
            """);
        ROWS.sentence("CLAUSES with ; between: none is empty", """
            write ;
            fault() = 0
            erase() = 1
            write calm;
            fault() = 5
            erase() = 5
            write calm;;calm
            fault() = 5
            erase() = 10
            write calm calm
            fault() = 5
            erase() = 9
            write calm,calm
            fault() = 4
            erase() = 9
            write calm:calm
            fault() = 4
            yard() = NOT
            """);
    }

    private static void words() {
        ROWS.sentence("each is one of: .. (As written here, without points)", """
            write yard.
            fault() = 4
            erase() = 5
            write place 0 0 0.
            fault() = 11
            erase() = 12
            write .
            fault() = 0
            erase() = 1
            write yar
            fault() = 0
            erase() = 3
            write yards
            fault() = 0
            erase() = 5
            write xyard
            fault() = 0
            erase() = 5
            write place 0 0 0 0
            fault() = 12
            erase() = 13
            write layer 0 0
            fault() = 8
            erase() = 9
            write news 0 0 0
            fault() = 9
            erase() = 10
            write calm 0
            fault() = 5
            erase() = 6
            write yard 0
            fault() = 5
            yard() = NOT
            """);
    }

    /** Each word with each of its letters the one before it or behind it, and with one less or more. */
    private static void spelling() {
        String[] clauses = {"yard", "place 0 0 0", "layer 0", "broody 0", "pullet 0", "china 0", "news 0 0", "calm"};
        for (String clause : clauses) {
            String word = clause.split(" ")[0];
            String numbers = clause.substring(word.length());
            StringBuilder rows = new StringBuilder(misspelt(clause, "NONE"));
            rows.append(misspelt(word + "a" + numbers, "0")).append(misspelt("a" + clause, "0"));
            for (int i = 0; i < word.length(); i++) {
                String head = word.substring(0, i);
                String tail = word.substring(i + 1) + numbers;
                rows.append(misspelt(head + tail, "0"));
                rows.append(misspelt(head + (char) (word.charAt(i) + 1) + tail, "0"));
                rows.append(misspelt(head + (char) (word.charAt(i) - 1) + tail, "0"));
                rows.append(misspelt(head + Character.toUpperCase(word.charAt(i)) + tail, "0"));
            }
            ROWS.sentence("each is one of: " + clause, rows.toString());
        }
    }

    private static String misspelt(String clause, String fault) {
        return "new\nwrite " + clause + "\nfault() = " + fault + "\n";
    }

    private static void yardClause() {
        ROWS.sentence("yard: all as at first", """
            -- upon nothing
            tell yard
            count(0) = 0
            count(1) = 0
            tell place 1 2 3;layer 4;news 0 1;news 13 2
            tell yard
            count(0) = 0
            count(1) = 0
            news(0) = NONE
            news(13) = NONE
            place(0, 0) = UNKNOWN
            hen(0, 0) = UNKNOWN
            tell place 4 5 6;china 7;yard;place 3 2 1;yard;place 7 8 9
            count(0) = 1
            count(1) = 0
            place(0, 0) = 7
            place(0, 1) = 8
            place(0, 2) = 9
            """);
    }

    private static void ninthPlace() {
        ROWS.sentence("place: .. a ninth cannot stand there (at its word)", """
            write place 0 0 0;place 0 0 0;place 0 0 0;place 0 0 0;place 0 0 0;place 0 0 0;place 0 0 0;place 0 0 0
            fault() = NONE
            write ;place 0 0 0
            fault() = 96
            yard() = NOT
            count(0) = 0
            erase() = 107
            write place 0 0 0;place 0 0 0;place 0 0 0;place 0 0 0;place 0 0 0;place 0 0 0;place 0 0 0;place 0 0 0
            write ;\s
            -- at the word though what is behind it cannot stand either
            write place 8
            fault() = 97
            erase() = 104
            -- told over two texts
            tell place 0 0 0;place 0 0 0;place 0 0 0;place 0 0 0;place 0 0 0;place 0 0 0
            write place 0 0 0;place 0 0 0;place
            fault() = 24
            yard() = NOT
            """);
        ROWS.sentence("place: behind yard there is room for eight", """
            tell place 0 0 0;place 0 0 0;place 0 0 0;place 0 0 0;place 0 0 0;place 0 0 0;place 0 0 0;place 0 0 0
            write place 0 0 0;yard
            fault() = 0
            erase() = 16
            write yard;place 1 0 0;place 1 0 0;place 1 0 0;place 1 0 0;place 1 0 0;place 1 0 0;place 1 0 0;place 1 0 0
            fault() = NONE
            yard() = 9
            count(0) = 8
            place(7, 0) = 1
            """);
    }

    private static void sixthHen() {
        for (String kind : new String[] {"layer 8", "broody 8", "pullet 8", "china 8", "layer 10", "china"}) {
            ROWS.sentence("layer ..: .. a sixth cannot (at its word)", ("""
                write layer 0;broody 1;pullet 2;china 3;layer 4
                fault() = NONE
                write ;KIND
                fault() = 42
                yard() = NOT
                count(1) = 0
                new
                tell layer 0;broody 1;pullet 2;china 3
                write layer 0;KIND
                fault() = 8
                yard() = NOT
                count(1) = 4
                """).replace("KIND", kind));
        }
        ROWS.sentence("layer ..: behind yard there is room for five", """
            tell layer 0;broody 1;pullet 2;china 3;layer 4
            write yard;china 5;china 6;china 7;china 8;china 9
            fault() = NONE
            yard() = 6
            count(1) = 5
            hen(4, 1) = 9
            """);
    }

    private static void newsClause() {
        ROWS.sentence("news: on DAY D M comes", """
            tell news 0 7;news 13 0;news 7 3
            news(0) = 7
            news(13) = 0
            news(7) = 3
            news(6) = NONE
            news(8) = NONE
            -- told once more, another one comes
            tell news 7 4;news 7 5
            news(7) = 5
            news(0) = 7
            write news 13 8
            fault() = 8
            yard() = NOT
            """);
    }

    private static void calmClause() {
        ROWS.sentence("calm: no NEWS", """
            tell calm
            news(0) = NONE
            tell place 1 2 3;layer 4;news 0 1;news 13 2
            tell calm
            news(0) = NONE
            news(13) = NONE
            count(0) = 1
            count(1) = 1
            place(0, 0) = 1
            hen(0, 1) = 4
            """);
    }

    private static void smallLetters() {
        ROWS.sentence("small letters a .. z", """
            -- the numbers of a and z, and those about them
            write calm
            write(96) = 5
            fault() = 4
            erase() = 5
            write calm
            write(123) = 5
            fault() = 4
            erase() = 5
            write calm
            write(97) = 5
            fault() = 0
            erase() = 5
            write calm
            write(122) = 5
            fault() = 0
            erase() = 5
            write CALM
            fault() = 0
            erase() = 4
            write calM
            fault() = 0
            erase() = 4
            write calm;Calm
            fault() = 5
            erase() = 9
            write calm
            write(225) = 5
            fault() = 4
            yard() = NOT
            """);
    }

    private static void digits() {
        ROWS.sentence("numbers of 1 or 2 digits", """
            tell place 7 8 9;place 07 08 09;place 00 00 00;layer 00;china 09;news 00 07;news 13 00
            place(0, 0) = 7
            place(1, 0) = 7
            place(1, 1) = 8
            place(1, 2) = 9
            place(2, 2) = 0
            hen(0, 1) = 0
            hen(1, 1) = 9
            news(0) = 7
            news(13) = 0
            write layer 000
            fault() = 6
            erase() = 9
            write layer 0 0
            fault() = 8
            erase() = 9
            write news 013 0
            fault() = 5
            erase() = 10
            write place 1 1 4294967297
            fault() = 10
            erase() = 20
            write place 1 1 256
            fault() = 10
            erase() = 13
            -- the numbers of 0 and 9 are 48 and 57
            write layer\s
            write(47) = 7
            fault() = 6
            erase() = 7
            write layer\s
            write(58) = 7
            fault() = 6
            erase() = 7
            write layer 1
            write(47) = 8
            fault() = 7
            erase() = 8
            write layer 1
            write(58) = 8
            fault() = 7
            yard() = NOT
            """);
    }

    private static void blanks() {
        ROWS.sentence("blanks between", """
            tell   yard  ;   place   1  2   3 ;layer 4;news  5   6  \s
            place(0, 0) = 1
            place(0, 1) = 2
            place(0, 2) = 3
            hen(0, 1) = 4
            news(5) = 6
            -- a row of letters and a row of digits are two TOKENS without one
            tell yard;place1 2 3;layer4
            place(0, 0) = 1
            hen(0, 1) = 4
            -- two numbers without one are one of more digits
            write place 12 3
            fault() = 6
            erase() = 10
            write pla ce 1 2 3
            fault() = 0
            erase() = 12
            write layer 0 9
            fault() = 8
            erase() = 9
            -- no other letter is a blank
            write calm
            write(31) = 5
            fault() = 4
            erase() = 5
            write calm
            write(33) = 5
            fault() = 4
            erase() = 5
            write calm
            write(9) = 5
            fault() = 4
            erase() = 5
            write calm
            write(10) = 5
            fault() = 4
            erase() = 5
            write calm
            write(160) = 5
            fault() = 4
            erase() = 5
            write calm
            write(0) = 5
            fault() = 4
            yard() = NOT
            """);
    }

    private static void earlierTexts() {
        ROWS.sentence("what earlier texts told stays", """
            tell place 1 2 3;layer 4;news 5 6
            tell place 7 8 9;china 0;news 6 5
            count(0) = 2
            place(0, 0) = 1
            place(0, 1) = 2
            place(0, 2) = 3
            place(1, 0) = 7
            count(1) = 2
            hen(0, 0) = 0
            hen(0, 1) = 4
            hen(1, 0) = 3
            news(5) = 6
            news(6) = 5
            -- a text with a FAULT tells nothing
            write place 0 0 0;yard;fox
            yard() = NOT
            count(0) = 2
            erase() = 20
            tell calm
            count(0) = 2
            count(1) = 2
            """);
    }

    private static void firstFault() {
        ROWS.sentence("A FAULT is at the first TOKEN that cannot stand there", """
            write fox;place 8 0 0
            fault() = 0
            erase() = 15
            write place 8 10 10
            fault() = 6
            erase() = 13
            write calm;place 7 10 10
            fault() = 13
            erase() = 18
            write   layer ;fox
            fault() = 8
            erase() = 12
            write place 0 layer 0
            fault() = 8
            erase() = 15
            write place ; 0 0
            fault() = 6
            erase() = 11
            write 7
            fault() = 0
            erase() = 1
            write calm;7
            fault() = 5
            erase() = 6
            -- any other letter is a TOKEN by itself
            write ??
            fault() = 0
            erase() = 2
            write calm??
            fault() = 4
            erase() = 6
            write layer 7x
            fault() = 7
            yard() = NOT
            """);
        ROWS.sentence("A FAULT: a number out of its bounds, of more digits, also", """
            write place 99 0 0
            fault() = 6
            erase() = 12
            write place 007 0 0
            fault() = 6
            erase() = 13
            write news 99 0
            fault() = 5
            erase() = 9
            write china 99
            fault() = 6
            erase() = 8
            write china 00000000009
            fault() = 6
            yard() = NOT
            """);
    }

    private static void tooSoon() {
        ROWS.sentence("or at the end, if it comes too soon", """
            fault() = 0
            yard() = NOT
            write  \s
            fault() = 2
            yard() = NOT
            erase() = 2
            write place
            fault() = 5
            write  1
            fault() = 7
            write  1\s
            fault() = 10
            write 1
            fault() = NONE
            write ;
            fault() = 12
            write  \s
            fault() = 14
            write news
            fault() = 18
            write  13
            fault() = 21
            yard() = NOT
            write  7
            fault() = NONE
            write ;broody
            fault() = 30
            write  0
            fault() = NONE
            yard() = 3
            """);
    }

    private static void order() {
        ROWS.sentence("CLAUSES are done in their order", """
            tell news 0 1;calm
            news(0) = NONE
            tell calm;news 0 1
            news(0) = 1
            tell news 0 2;news 0 3
            news(0) = 3
            tell place 1 0 0;layer 1;yard
            count(0) = 0
            count(1) = 0
            news(0) = NONE
            tell yard;place 1 0 0;layer 1
            count(0) = 1
            count(1) = 1
            """);
    }

    /** Each of them is first made so, then is not so behind a text that tells nothing of it. */
    private static void behindTheClauses() {
        ROWS.sentence("Behind them it is DAY 0, MEANINGS, WARM are as told (however they were), ..", """
            tell place 1 3 0;place 2 2 0;layer 0;layer 0;news 0 1;news 1 1
            day() = 3
            heed(0) = 10001
            eat(1) = 1
            day() = 3
            straw(0, 9) = 3
            straw(1, 0) = 2
            move(0, 1) = 2
            thunder() = 0
            seen(0, 1, 0) = 1
            keep(0) = 2
            keep(1) = 2
            tell calm
            -- DAY 0
            count(2) = 0
            -- MEANINGS, WARM as told
            place(0, 0) = 1
            place(1, 0) = 2
            place(0, 1) = 3
            place(1, 1) = 2
            -- no EGG was laid
            hen(0, 2) = NONE
            hen(1, 2) = NONE
            hen(0, 3) = 0
            hen(0, 4) = 0
            hen(1, 4) = 0
            count(7) = 0
            count(8) = 0
            -- none is there
            count(3) = 0
            place(0, 3) = NONE
            place(1, 3) = NONE
            eat(0) = NOT
            heed(1) = NOT
            -- none eaten or heeded
            count(4) = 0
            count(5) = 0
            count(6) = 9999
            -- no THUNDER
            count(9) = 0
            -- nothing is SEEN
            count(10) = 0
            kinds(0) = 15
            forget() = 0
            -- nothing is kept or can be undone
            back(0) = NOT
            back(1) = NOT
            count(11) = 0
            undo() = NOT
            """);
    }
}
