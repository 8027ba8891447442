import java.util.ArrayList;
import java.util.List;
import java.util.Set;

/**
 * Tests in rows, each block of them under the sentence of the document that it is for:
 *
 * <pre>
 *   new                  a new object (there is one at first)
 *   write calm;news 0    letters of THE TEXT, each of which must be taken
 *   tell place 1 2 3     the same, and yard() does its CLAUSES
 *   8 times day()        calls that must not be refused
 *   beyond 512           what follows is not promised
 *   day() = 3            a call and the answer that is due
 *   -- ..                words for the reader
 * </pre>
 *
 * Behind every call that is refused, and every one that only asks, the object must be as one
 * that was never called so.
 */
final class Rows {
    private static final Set<String> REFUSALS = Set.of("UNKNOWN", "OUTSIDE", "NOT", "FULL");
    private static final Set<String> ASKING = Set.of("fault", "place", "hen", "news", "as", "lays", "rights", "ask",
        "trough", "warmth", "kinds", "habits", "foxes", "count");

    private final Checks checks = new Checks();
    private String sentence;
    private Run run;
    private List<String> done;
    private boolean isBeyond;

    void sentence(String words, String rows) {
        sentence = words;
        beginAnew();
        for (String row : rows.split("\n")) {
            if (row.equals("new")) {
                beginAnew();
            } else if (row.equals("beyond 512")) {
                isBeyond = true;
            } else if (!row.isBlank() && !row.startsWith("--")) {
                answer(row);
                due("this row is within the 512 calls: " + row, isBeyond || run.isWithinPromise());
            }
        }
    }

    void end(String name) {
        checks.end(name);
    }

    private void beginAnew() {
        run = new Run();
        done = new ArrayList<>();
        isBeyond = false;
    }

    private void due(String what, boolean holds) {
        checks.due(sentence + " | " + what, holds, true);
    }

    private void answer(String row) {
        int is = row.indexOf(" = ");
        if (isLetters(row) || is < 0) {
            due("is not refused: " + row, play(run, row));
            done.add(row);
            return;
        }
        String call = row.substring(0, is);
        String want = row.substring(is + 3);
        checks.due(sentence + " | " + call, run.call(call), Run.number(want));
        boolean changes = !REFUSALS.contains(want) && !ASKING.contains(call.substring(0, call.indexOf('(')));
        if (changes) {
            done.add(call);
        } else {
            due(call + " changes nothing", changeNothing(done, List.of(call)));
        }
    }

    private static boolean isLetters(String row) {
        return row.startsWith("write ") || row.startsWith("tell ");
    }

    /** Answers whether no call of the row was refused. */
    private static boolean play(Run run, String row) {
        if (isLetters(row)) {
            return playLetters(run, row);
        }
        int times = row.indexOf(" times ");
        if (times < 0) {
            return run.call(row) >= HenOracle.NONE;
        }
        boolean taken = true;
        for (int i = Integer.parseInt(row.substring(0, times)); i > 0; i--) {
            taken &= run.call(row.substring(times + 7)) >= HenOracle.NONE;
        }
        return taken;
    }

    private static boolean playLetters(Run run, String row) {
        boolean taken = true;
        for (char letter : row.substring(row.indexOf(' ') + 1).toCharArray()) {
            taken &= run.call("write(" + (int) letter + ")") > 0;
        }
        return row.startsWith("write ") ? taken : taken & run.call("yard()") > 0;
    }

    /**
     * Two objects of the same rows, one of them with the calls, are asked all there is to ask, then
     * undone, set back and told anew: what was remembered or kept comes to light by that alone. The
     * twins may go beyond 512 calls; the rows themselves do not.
     */
    static boolean changeNothing(List<String> rows, List<String> calls) {
        Run with = played(rows);
        for (String call : calls) {
            with.call(call);
        }
        return all(with).equals(all(played(rows)));
    }

    static Run played(List<String> rows) {
        Run run = new Run();
        for (String row : rows) {
            if (!play(run, row)) {
                throw new IllegalStateException("refused in " + rows + ": " + row);
            }
        }
        return run;
    }

    private static List<Integer> all(Run run) {
        List<Integer> answers = new ArrayList<>();
        askYard(run, answers);
        askTold(run, answers);
        for (int i = 0; i < 9; i++) {
            answers.add(run.call("undo()"));
            askYard(run, answers);
        }
        for (int k = 0; k < 2; k++) {
            answers.add(run.call("back(" + k + ")"));
            askYard(run, answers);
        }
        answers.add(run.call("day()"));
        askYard(run, answers);
        answers.add(run.call("yard()"));
        answers.add(run.call("erase()"));
        play(run, "tell calm");
        askYard(run, answers);
        askTold(run, answers);
        return answers;
    }

    private static void askYard(Run run, List<Integer> answers) {
        for (int what = 0; what <= 12; what++) {
            answers.add(run.call("count(" + what + ")"));
        }
        askEach(run, answers, "place", 8, 3);
        askEach(run, answers, "hen", 5, 4);
    }

    private static void askEach(Run run, List<Integer> answers, String call, int many, int whats) {
        for (int i = 0; i <= many; i++) {
            for (int what = 0; what <= whats; what++) {
                answers.add(run.call(call + "(" + i + ", " + what + ")"));
            }
        }
    }

    private static void askTold(Run run, List<Integer> answers) {
        answers.add(run.call("fault()"));
        for (int day = 0; day < 14; day++) {
            answers.add(run.call("news(" + day + ")"));
        }
        for (int hen = 0; hen < 5; hen++) {
            answers.add(run.call("kinds(" + hen + ")"));
            answers.add(run.call("habits(" + hen + ")"));
            answers.add(run.call("rights(" + hen + ", 30)"));
        }
    }
}
