/** Promises 1 to 9: what is told. */
public final class ToldTest {
    private static final Checks CHECKS = new Checks();

    public static void main(String[] args) {
        newObject();
        write();
        erase();
        eraseForGood();
        faultsOfWords();
        faultsOfNumbers();
        faultsOfTooMany();
        yardAddsToEarlierTexts();
        yardBeginsAnew();
        yardRefused();
        place();
        hen();
        news();
        asKinds();
        asLikings();
        asRefused();
        CHECKS.end("ToldTest");
    }

    private static void due(String call, int got, int want) {
        CHECKS.due(call, got, want);
    }

    private static void newObject() {
        HenOracle x = new HenOracle();
        for (int what = 0; what <= 12; what++) {
            due("new count(" + what + ")", x.count(what), what == 6 ? 9999 : 0);
        }
        for (int day = 0; day < 14; day++) {
            due("new news(" + day + ")", x.news(day), HenOracle.NONE);
        }
        due("new place(0, 0)", x.place(0, 0), HenOracle.UNKNOWN);
        due("new hen(0, 0)", x.hen(0, 0), HenOracle.UNKNOWN);
        due("new undo()", x.undo(), HenOracle.NOT);
        due("new back(0)", x.back(0), HenOracle.NOT);
    }

    private static void write() {
        HenOracle x = new HenOracle();
        due("write(-1)", x.write(-1), HenOracle.OUTSIDE);
        due("write(256)", x.write(256), HenOracle.OUTSIDE);
        due("write(min)", x.write(Integer.MIN_VALUE), HenOracle.OUTSIDE);
        due("count(12) after refused", x.count(12), 0);
        due("write(0)", x.write(0), 1);
        due("write(255)", x.write(255), 2);
        for (int n = 3; n <= 160; n++) {
            due("write, letter " + n, x.write('a'), n);
        }
        due("write, one too many", x.write('a'), HenOracle.FULL);
        due("write, wrong and too many", x.write(256), HenOracle.OUTSIDE);
        due("count(12) when full", x.count(12), 160);
    }

    private static void erase() {
        HenOracle x = new HenOracle();
        due("erase of nothing", x.erase(), 0);
        Checks.write(x, "place 9");
        due("fault ahead of erase", x.fault(), 6);
        due("erase", x.erase(), 7);
        due("erase again", x.erase(), 0);
        due("count(12) after erase", x.count(12), 0);
        due("write after erase", x.write('c'), 1);
        Checks.write(x, "alm");
        due("text after erase", x.fault(), HenOracle.NONE);
    }

    /** Letters of an erased text lie behind the new one's end, and are not read. */
    private static void eraseForGood() {
        String[][] texts = {{"calm;calm", "calm"}, {"layer 19", "layer 1"}, {"layer 1 9", "layer 1"},
            {"calmly", "calm"}, {"calm    ;", "calm  "}};
        for (String[] pair : texts) {
            HenOracle x = new HenOracle();
            Checks.write(x, pair[0]);
            x.erase();
            Checks.write(x, pair[1]);
            due("'" + pair[1] + "' over '" + pair[0] + "'", x.fault(), HenOracle.NONE);
        }
        HenOracle x = new HenOracle();
        Checks.write(x, "place 1 1      ");
        x.erase();
        Checks.write(x, "place 1 1 ");
        due("an end that comes too soon, over blanks", x.fault(), 10);
        x.erase();
        Checks.write(x, "place 1 1 1");
        x.erase();
        Checks.write(x, "place 1 1 ");
        due("an end that comes too soon, over a number", x.fault(), 10);
    }

    private static void dueFault(String text, int want) {
        HenOracle x = new HenOracle();
        Checks.write(x, text);
        due("fault of '" + text + "'", x.fault(), want);
        due("length behind fault()", x.count(12), text.length());
        due("yard of '" + text + "'", x.yard() == HenOracle.NOT ? 1 : 0, want == HenOracle.NONE ? 0 : 1);
    }

    private static void faultsOfWords() {
        dueFault("", 0);
        dueFault("   ", 3);
        dueFault("yard", HenOracle.NONE);
        dueFault("calm", HenOracle.NONE);
        dueFault("  yard ; calm  ", HenOracle.NONE);
        dueFault("calm;", 5);
        dueFault("calm ; ", 7);
        dueFault(";", 0);
        dueFault(";calm", 0);
        dueFault("calm;;calm", 5);
        dueFault("calm,calm", 4);
        dueFault("calm.", 4);
        dueFault("calm\t", 4);
        dueFault("calm" + (char) 0, 4);
        dueFault("calm" + (char) 255, 4);
        dueFault("calm calm", 5);
        dueFault("calm 3", 5);
        dueFault("calm3", 4);
        dueFault("yards", 0);
        dueFault("yardz", 0);
        dueFault("yarda", 0);
        dueFault("bard", 0);
        dueFault("yar", 0);
        dueFault("Yard", 0);
        dueFault("yarD", 0);
        dueFault("7", 0);
        dueFault("fox", 0);
        dueFault("hen 3", 0);
        dueFault("calm;hen 3", 5);
    }

    private static void faultsOfNumbers() {
        dueFault("place 0 0 0", HenOracle.NONE);
        dueFault("place 7 9 9", HenOracle.NONE);
        dueFault("place7   9 9", HenOracle.NONE);
        dueFault("place 07 09 00", HenOracle.NONE);
        dueFault("place 8 0 0", 6);
        dueFault("place 0 10 0", 8);
        dueFault("place 0 0 10", 10);
        dueFault("place 007 0 0", 6);
        dueFault("place -1 0 0", 6);
        dueFault("place", 5);
        dueFault("place ", 6);
        dueFault("place 0 0", 9);
        dueFault("place 0 0 ;", 10);
        dueFault("place 0 x 0", 8);
        dueFault("place 0 0 0 0", 12);
        dueFault("place 0 0 0x", 11);
        String[] kinds = {"layer", "broody", "pullet", "china"};
        for (String kind : kinds) {
            dueFault(kind + " 0", HenOracle.NONE);
            dueFault(kind + " 9", HenOracle.NONE);
            dueFault(kind + " 10", kind.length() + 1);
            dueFault(kind + " 000", kind.length() + 1);
            dueFault(kind, kind.length());
            dueFault(kind + " 1 1", kind.length() + 3);
        }
        dueFault("news 13 7", HenOracle.NONE);
        dueFault("news 00 00", HenOracle.NONE);
        dueFault("news 14 0", 5);
        dueFault("news 013 0", 5);
        dueFault("news 0 8", 7);
        dueFault("news 0", 6);
        dueFault("news 0 0 0", 9);
    }

    private static String times(int n, String clause) {
        StringBuilder text = new StringBuilder(clause);
        for (int i = 1; i < n; i++) {
            text.append(';').append(clause);
        }
        return text.toString();
    }

    private static void faultsOfTooMany() {
        dueFault(times(14, "calm"), HenOracle.NONE);
        dueFault(times(15, "calm"), 69);
        dueFault(times(14, "calm") + ";", 69);
        dueFault(times(8, "place 1 1 1"), HenOracle.NONE);
        dueFault(times(9, "place 1 1 1"), 96);
        dueFault(times(8, "place 1 1 1") + ";place", 96);
        dueFault(times(8, "place 1 1 1") + ";yard;place 1 1 1", HenOracle.NONE);
        dueFault(times(5, "layer 1"), HenOracle.NONE);
        dueFault(times(5, "layer 1") + ";china 1", 40);
        dueFault(times(5, "layer 1") + ";yard;china 1", HenOracle.NONE);
        HenOracle x = Checks.yardOf(times(7, "place 1 1 1") + ";" + times(5, "china 1"));
        Checks.write(x, "place 1 1 1;place 1 1 1");
        due("a ninth place over two texts", x.fault(), 12);
        x.erase();
        Checks.write(x, "place 1 1 1;broody 1");
        due("a sixth hen over two texts", x.fault(), 12);
        x.erase();
        Checks.write(x, "yard;" + times(8, "place 1 1 1"));
        due("eight places behind yard", x.fault(), HenOracle.NONE);
        due("places behind fault() alone", x.count(0), 7);
    }

    private static void yardAddsToEarlierTexts() {
        HenOracle x = new HenOracle();
        Checks.write(x, "place 1 2 3;layer 4;news 13 5");
        due("yard, three clauses", x.yard(), 3);
        due("text behind yard", x.count(12), 0);
        Checks.write(x, "place 4 5 6; china 9;news 2 6");
        due("yard, three more", x.yard(), 3);
        due("places of two texts", x.count(0), 2);
        due("hens of two texts", x.count(1), 2);
        due("place(0, 0)", x.place(0, 0), 1);
        due("place(1, 0)", x.place(1, 0), 4);
        due("news(13)", x.news(13), 5);
        due("news(2)", x.news(2), 6);
        Checks.write(x, "news 13 0;calm;news 1 1");
        due("yard with calm", x.yard(), 3);
        due("news(13) behind calm", x.news(13), HenOracle.NONE);
        due("news(2) behind calm", x.news(2), HenOracle.NONE);
        due("news(1) behind calm", x.news(1), 1);
        due("calm leaves places", x.count(0), 2);
        due("calm leaves hens", x.count(1), 2);
        Checks.write(x, "layer 1;yard;place 7 8 9");
        due("yard with yard", x.yard(), 3);
        due("places behind yard", x.count(0), 1);
        due("hens behind yard", x.count(1), 0);
        due("news(1) behind yard", x.news(1), HenOracle.NONE);
        due("place(0, 2) behind yard", x.place(0, 2), 9);
    }

    private static void yardBeginsAnew() {
        HenOracle x = Checks.yardOf("place 1 3 0;place 2 2 0;layer 3;news 0 1;news 1 1");
        x.day();
        x.heed(0);
        x.day();
        x.eat(1);
        x.day();
        x.straw(0, 9);
        x.move(0, 1);
        x.thunder();
        x.seen(0, 1, 0);
        x.keep(0);
        x.keep(1);
        due("fortune ahead of a text", x.count(6), 10001);
        Checks.tell(x, "calm;news 5 5");
        int[] due = {2, 1, 0, 0, 0, 0, 9999, 0, 0, 0, 0, 0, 0};
        for (int what = 0; what < due.length; what++) {
            due("count(" + what + ") behind a text", x.count(what), due[what]);
        }
        due("meaning as told", x.place(0, 0), 1);
        due("other meaning as told", x.place(1, 0), 2);
        due("warm as told", x.place(0, 1), 3);
        due("no egg there", x.place(0, 3), HenOracle.NONE);
        due("no last egg", x.hen(0, 2), HenOracle.NONE);
        due("no right ones", x.hen(0, 3), 0);
        due("no wrong ones", x.hen(0, 4), 0);
        due("nothing kept in 0", x.back(0), HenOracle.NOT);
        due("nothing kept in 1", x.back(1), HenOracle.NOT);
        due("nothing to undo", x.undo(), HenOracle.NOT);
    }

    private static void yardRefused() {
        HenOracle x = Checks.yardOf("place 1 3 0;layer 3");
        x.day();
        x.keep(0);
        x.seen(0, 2, 0);
        Checks.write(x, "yard;place 1 1 1;fox");
        String before = Checks.allOf(x);
        CHECKS.refused("yard with a fault", x, before, x.yard(), HenOracle.NOT);
        due("the text is still there", x.count(12), 20);
        due("what was kept still is", x.back(0), 1);
    }

    private static void place() {
        HenOracle x = Checks.yardOf("place 7 8 9;place 6 5 4;layer 0");
        due("place(0, 0)", x.place(0, 0), 7);
        due("place(0, 1)", x.place(0, 1), 8);
        due("place(0, 2)", x.place(0, 2), 9);
        due("place(0, 3)", x.place(0, 3), HenOracle.NONE);
        due("place(1, 0)", x.place(1, 0), 6);
        due("place(1, 1)", x.place(1, 1), 5);
        due("place(1, 2)", x.place(1, 2), 4);
        x.day();
        due("place(0, 3) with an egg", x.place(0, 3), 0);
        x.straw(0, 1);
        due("place(0, 1) with straw", x.place(0, 1), 1);
        x.move(0, 1);
        due("place(0, 0) moved", x.place(0, 0), 6);
        due("place(2, 0)", x.place(2, 0), HenOracle.UNKNOWN);
        due("place(-1, 0)", x.place(-1, 0), HenOracle.UNKNOWN);
        due("place(8, 9)", x.place(8, 9), HenOracle.UNKNOWN);
        due("place(max, 0)", x.place(Integer.MAX_VALUE, 0), HenOracle.UNKNOWN);
        due("place(0, 4)", x.place(0, 4), HenOracle.OUTSIDE);
        due("place(0, -1)", x.place(0, -1), HenOracle.OUTSIDE);
    }

    private static void hen() {
        HenOracle x = Checks.yardOf("place 1 3 0;place 2 2 0;layer 3;broody 4;pullet 5;china 6;news 0 1");
        for (int hen = 0; hen < 4; hen++) {
            due("hen(" + hen + ", 0)", x.hen(hen, 0), hen);
            due("hen(" + hen + ", 1)", x.hen(hen, 1), hen + 3);
            for (int what = 2; what <= 4; what++) {
                due("hen(" + hen + ", " + what + ")", x.hen(hen, what), what == 2 ? HenOracle.NONE : 0);
            }
        }
        x.day();
        due("last egg of 0", x.hen(0, 2), 0);
        due("right ones of 0", x.hen(0, 3), 1);
        due("wrong ones of 0", x.hen(0, 4), 0);
        due("last egg of 1", x.hen(1, 2), 1);
        due("right ones of 1", x.hen(1, 3), 0);
        due("wrong ones of 1", x.hen(1, 4), 1);
        due("last egg of 2, for whom no place was left", x.hen(2, 2), HenOracle.NONE);
        due("wrong ones of 2", x.hen(2, 4), 0);
        x.eat(0);
        due("last egg, eaten", x.hen(0, 2), 0);
        x.thunder();
        x.day();
        due("last egg behind thunder", x.hen(0, 2), 0);
        due("hen(4, 0)", x.hen(4, 0), HenOracle.UNKNOWN);
        due("hen(-1, 0)", x.hen(-1, 0), HenOracle.UNKNOWN);
        due("hen(5, 9)", x.hen(5, 9), HenOracle.UNKNOWN);
        due("hen(0, 5)", x.hen(0, 5), HenOracle.OUTSIDE);
        due("hen(0, -1)", x.hen(0, -1), HenOracle.OUTSIDE);
    }

    private static void news() {
        HenOracle x = Checks.yardOf("news 0 0;news 13 7;news 5 3;news 5 4");
        due("news(0)", x.news(0), 0);
        due("news(13)", x.news(13), 7);
        due("news(5), told twice", x.news(5), 4);
        due("news(6)", x.news(6), HenOracle.NONE);
        due("news(14)", x.news(14), HenOracle.OUTSIDE);
        due("news(-1)", x.news(-1), HenOracle.OUTSIDE);
        due("news(min)", x.news(Integer.MIN_VALUE), HenOracle.OUTSIDE);
    }

    private static void asKinds() {
        HenOracle x = Checks.yardOf("place 0 1 2;layer 0;broody 0;pullet 0;china 0");
        boolean[][] is = {
            {true, true, false, false, false},
            {true, true, true, false, false},
            {true, true, false, true, false},
            {true, false, false, false, true}};
        for (int hen = 0; hen < 4; hen++) {
            for (int kind = 0; kind <= 4; kind++) {
                boolean not = x.as(hen, kind) == HenOracle.NOT;
                CHECKS.due("as(" + hen + ", " + kind + ") is NOT", not, !is[hen][kind]);
            }
        }
    }

    private static void asLikings() {
        HenOracle layer = Checks.yardOf("place 0 1 1;layer 9");
        due("layer, not there yet", layer.as(0, 1), 9999 + 3);
        layer.day();
        due("layer, there last", layer.as(0, 1), 9999 - 6);
        due("layer as a hen", layer.as(0, 0), 9999 - 6);
        layer.straw(0, 0);
        due("layer with less straw", layer.as(0, 1), 9999 - 8);
        HenOracle broody = Checks.yardOf("place 0 1 1;broody 2");
        due("broody, not there yet", broody.as(0, 2), 9999 + 3);
        broody.day();
        due("broody, there last", broody.as(0, 2), 9999 + 10);
        due("broody as a layer", broody.as(0, 1), 9999 + 10);
        due("broody as a hen", broody.as(0, 0), 9999 + 10);
        HenOracle pullet = Checks.yardOf("place 0 9 8;pullet 7");
        due("pullet on day 0", pullet.as(0, 3), 9999 + 8);
        pullet.day();
        due("pullet on day 1", pullet.as(0, 3), 9999 + 5);
        due("pullet as a layer", pullet.as(0, 1), 9999 + 5);
        pullet.day();
        due("pullet on day 2", pullet.as(0, 0), 9999 + 2);
        HenOracle china = Checks.yardOf("place 0 9 9;place 0 0 0;place 0 0 0;china 9;china 8;china 0");
        due("china, 9 by 3 places", china.as(0, 4), 9999 + 1);
        due("china, 8 by 3 places", china.as(1, 4), 9999);
        due("china, 0", china.as(2, 0), 9999 + 1);
        due("china, 7 by one place", Checks.yardOf("place 0 0 0;china 7").as(0, 4), 9999 + 1);
    }

    private static void asRefused() {
        HenOracle x = Checks.yardOf("china 1");
        due("as without a place", x.as(0, 0), HenOracle.NOT);
        due("as, of no kind", x.as(0, 5), HenOracle.OUTSIDE);
        due("as, below the kinds", x.as(0, -1), HenOracle.OUTSIDE);
        due("as, no hen", x.as(1, 5), HenOracle.UNKNOWN);
        due("as, hen -1", x.as(-1, 0), HenOracle.UNKNOWN);
    }
}
