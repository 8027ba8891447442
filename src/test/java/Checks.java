/** What the tests share: telling an answer that is not due, and telling a yard in letters. */
final class Checks {
    private int asked = 0;
    private int wrong = 0;

    void due(String call, int got, int want) {
        asked++;
        if (got != want) {
            wrong++;
            System.out.println(call + " answered " + got + ", due is " + want);
        }
    }

    void due(String call, boolean got, boolean want) {
        due(call, got ? 1 : 0, want ? 1 : 0);
    }

    /** Ends the test; exit code 1 if an answer was not the one that is due. */
    void end(String name) {
        System.out.println(name + ": " + asked + " answers, " + wrong + " not as due");
        if (wrong != 0 || asked == 0) {
            System.exit(1);
        }
    }

    static void write(HenOracle x, String text) {
        for (int i = 0; i < text.length(); i++) {
            x.write(text.charAt(i));
        }
    }

    /** A text that must be without fault. */
    static void tell(HenOracle x, String text) {
        write(x, text);
        if (x.yard() < 0) {
            System.out.println("the test's own text has a fault: " + text);
            System.exit(1);
        }
    }

    static HenOracle yardOf(String text) {
        HenOracle x = new HenOracle();
        tell(x, text);
        return x;
    }

    /** The yard of an object, as far as calls without effect tell of it. */
    static String yardIn(HenOracle x) {
        StringBuilder all = new StringBuilder();
        for (int what = 0; what <= 9; what++) {
            all.append(x.count(what)).append(',');
        }
        for (int place = 0; place < 8; place++) {
            for (int what = 0; what <= 3; what++) {
                all.append(x.place(place, what)).append(',');
            }
        }
        for (int hen = 0; hen < 5; hen++) {
            for (int what = 0; what <= 4; what++) {
                all.append(x.hen(hen, what)).append(',');
            }
            all.append(x.kinds(hen)).append(',').append(x.habits(hen)).append(',');
        }
        for (int day = 0; day < 14; day++) {
            all.append(x.news(day)).append(',');
        }
        return all.toString();
    }

    /** The yard and all about it, to see that a refused call changes nothing. */
    static String allOf(HenOracle x) {
        return yardIn(x) + x.count(10) + "," + x.count(11) + "," + x.count(12) + "," + x.fault();
    }

    /** A refused call: its answer, and that nothing is otherwise than before it. */
    void refused(String call, HenOracle x, String before, int got, int want) {
        due(call, got, want);
        due(call + " changes nothing", before.equals(allOf(x)), true);
    }
}
