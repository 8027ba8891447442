import java.util.ArrayList;
import java.util.List;

/**
 * Every call that takes numbers, with every mix of numbers at its bounds, next to them and far
 * from them, in yards that are empty, half full and full: UNKNOWN and OUTSIDE come as the document
 * tells, UNKNOWN first, and both ahead of NOT and FULL; and nothing changes by them.
 */
public final class RefusalsTest {
    private static final Checks CHECKS = new Checks();

    /** Of what each number is: a hen, a place, a place or NONE, a k, or any other from .. to. */
    private static final String[] CALLS = {"write(0..255)", "place(place, 0..3)", "hen(hen, 0..4)", "news(0..13)",
        "as(hen, 0..4)", "straw(place, 0..9)", "move(place, place)", "eat(place)", "heed(place)", "keep(k)", "back(k)",
        "lays(hen, 1..30)", "rights(hen, 0..30)", "ask(0..30, 0..1)", "trough(1..20)", "warmth(hen, place)",
        "seen(hen, 1..14, place?)", "kinds(hen)", "habits(hen)", "foxes(hen, 0..6, 0..10, 0..1)", "count(0..12)"};

    /** So many at once that the run stays within 512 calls behind the longest yard below. */
    private static final int AT_ONCE = 100;

    private final List<String> rows;
    private final int places;
    private final int hens;

    private RefusalsTest(int places, int hens, String... rows) {
        this.places = places;
        this.hens = hens;
        this.rows = List.of(rows);
    }

    public static void main(String[] args) {
        RefusalsTest[] yards = {
            new RefusalsTest(0, 0),
            new RefusalsTest(0, 1, "tell layer 3", "day()", "keep(1)", "write calm"),
            new RefusalsTest(1, 0, "tell place 1 3 0;news 0 1", "straw(0, 9)", "keep(0)", "thunder()"),
            new RefusalsTest(2, 2, "tell place 1 3 0;place 2 2 0;layer 3;broody 2;news 0 1", "day()", "heed(0)",
                "seen(1, 2, -1)", "keep(0)", "2 times day()", "move(0, 1)", "keep(1)", "thunder()", "write yard;fox"),
            new RefusalsTest(8, 5, "tell place 0 1 2;place 1 2 3;place 2 3 4;place 3 4 5;place 4 5 6;place 5 6 7;"
                + "place 6 7 8;place 7 8 9;layer 1;broody 2;pullet 3;china 4;layer 5;news 0 7", "day()", "heed(7)",
                "keep(0)", "5 times day()", "straw(0, 9)", "keep(1)", "6 times seen(4, 14, 7)", "160 times write(32)")};
        for (RefusalsTest yard : yards) {
            for (String call : CALLS) {
                yard.sweep(call);
            }
        }
        CHECKS.end("RefusalsTest");
    }

    private void sweep(String call) {
        int open = call.indexOf('(');
        String[] numbers = call.substring(open + 1, call.length() - 1).split(", ");
        List<String> refused = new ArrayList<>();
        mix(call.substring(0, open), numbers, new int[numbers.length], 0, refused);
        for (int from = 0; from < refused.size(); from += AT_ONCE) {
            askAll(refused.subList(from, Math.min(refused.size(), from + AT_ONCE)));
        }
    }

    /** Gathers "call = refusal" for every mix that is refused. */
    private void mix(String name, String[] numbers, int[] chosen, int at, List<String> refused) {
        if (at == numbers.length) {
            String refusal = refusal(name, numbers, chosen);
            if (refusal != null) {
                refused.add(words(name, chosen) + " = " + refusal);
            }
            return;
        }
        for (int value : about(first(numbers[at]), last(numbers[at]))) {
            chosen[at] = value;
            mix(name, numbers, chosen, at + 1, refused);
        }
    }

    private static int[] about(int first, int last) {
        return new int[] {Integer.MIN_VALUE, first - 2, first - 1, first, last, last + 1, last + 2, Integer.MAX_VALUE};
    }

    private int first(String number) {
        return number.contains("..") ? Integer.parseInt(number.substring(0, number.indexOf('.'))) : 0;
    }

    private int last(String number) {
        switch (number) {
            case "hen":
                return hens - 1;
            case "place": case "place?":
                return places - 1;
            case "k":
                return 1;
            default:
                return Integer.parseInt(number.substring(number.lastIndexOf('.') + 1));
        }
    }

    private String refusal(String name, String[] numbers, int[] chosen) {
        boolean isUnknown = name.equals("move") && chosen[0] == chosen[1];
        boolean isOutside = false;
        for (int i = 0; i < chosen.length; i++) {
            boolean fits = chosen[i] >= first(numbers[i]) && chosen[i] <= last(numbers[i])
                || numbers[i].equals("place?") && chosen[i] == HenOracle.NONE;
            if (numbers[i].contains("..")) {
                isOutside |= !fits;
            } else {
                isUnknown |= !fits;
            }
        }
        return isUnknown ? "UNKNOWN" : isOutside ? "OUTSIDE" : null;
    }

    private static String words(String name, int[] chosen) {
        StringBuilder call = new StringBuilder(name);
        for (int i = 0; i < chosen.length; i++) {
            call.append(i == 0 ? "(" : ", ").append(chosen[i]);
        }
        return call.append(")").toString();
    }

    private void askAll(List<String> refused) {
        Run run = Rows.played(rows);
        List<String> calls = new ArrayList<>();
        for (String row : refused) {
            int is = row.indexOf(" = ");
            calls.add(row.substring(0, is));
            CHECKS.due(rows + " " + row, run.call(row.substring(0, is)), Run.number(row.substring(is + 3)));
        }
        CHECKS.due(rows + " within the 512 calls", run.isWithinPromise(), true);
        CHECKS.due(rows + " nothing changes by " + calls, Rows.changeNothing(rows, calls), true);
    }
}
