import java.util.ArrayList;
import java.util.List;
import java.util.function.Consumer;
import java.util.function.ToIntFunction;

/**
 * Two objects made by the same calls. One of them gets one call more, which must change nothing;
 * then both are asked all that can be asked, and must answer alike.
 */
final class Twins {
    private final Due due;
    private final String name;
    private final Consumer<LevelVotes> calls;
    private final List<Integer> untouched;

    Twins(Due due, String name, Consumer<LevelVotes> calls) {
        this.due = due;
        this.name = name;
        this.calls = calls;
        this.untouched = all(made());
    }

    private LevelVotes made() {
        LevelVotes x = new LevelVotes();
        calls.accept(x);
        return x;
    }

    /** A refused call answers as it should, and changes nothing. */
    void refuses(String call, ToIntFunction<LevelVotes> more, int want) {
        due.is(name + ": " + call, more.applyAsInt(made()), want);
        changesNothing(call, more);
    }

    void changesNothing(String call, ToIntFunction<LevelVotes> more) {
        LevelVotes x = made();
        more.applyAsInt(x);
        due.is(name + ": nothing changes by " + call, all(x).equals(untouched) ? 1 : 0, 1);
    }

    /** A text with a fault: its letter is told, the text is empty, and all else is as it was. */
    void faults(String text, int number, int where) {
        LevelVotes x = made();
        due.is(name + ": house of " + text, Due.tell(x, text), -10 - number);
        due.is(name + ": fault of " + text, x.fault(), where);
        due.is(name + ": letters behind " + text, x.told(4), 0);
        List<Integer> answers = all(x);
        boolean alike = answers.subList(1, answers.size()).equals(untouched.subList(1, untouched.size()));
        due.is(name + ": nothing else changes by " + text, alike ? 1 : 0, 1);
    }

    /** A call that does change something, so that the twins are known to tell it. */
    void changes(String call, ToIntFunction<LevelVotes> more) {
        LevelVotes x = made();
        more.applyAsInt(x);
        due.is(name + ": something changes by " + call, all(x).equals(untouched) ? 1 : 0, 0);
    }

    /** All that an object answers; what can only be seen by doing is done at the end. */
    private static List<Integer> all(LevelVotes x) {
        List<Integer> answers = new ArrayList<>();
        answers.add(x.fault());
        answers.add(x.told(0));
        answers.add(x.told(1));
        addHeights(x, answers);
        addSeen(x, answers);
        addNow(x, answers);
        for (int k = x.told(12); k > 0; k--) {
            answers.add(x.undo());
            addPast(x, answers);
        }
        for (int i = 0; i < 2; i++) {
            answers.add(x.goBack(i));
            addNow(x, answers);
        }
        answers.add(x.feed(';'));
        answers.add(x.house());
        answers.add(x.fault());
        answers.add(x.told(0));
        return answers;
    }

    private static void addHeights(LevelVotes x, List<Integer> answers) {
        int cells = x.told(0) * x.told(1);
        for (int c = 0; c < cells; c++) {
            answers.add(x.cell(c, 0));
            answers.add(x.cell(c, 1));
        }
    }

    private static void addSeen(LevelVotes x, List<Integer> answers) {
        answers.add(x.told(10));
        answers.add(x.told(11));
        answers.add(x.stood(Due.NONE));
        answers.add(x.stood(0));
        answers.add(x.judge());
    }

    /** Few calls, as twenty can be undone and an object answers 512 in all. */
    private static void addPast(LevelVotes x, List<Integer> answers) {
        answers.add(x.told(5));
        answers.add(x.told(7));
        for (int i = 0; i < 2; i++) {
            answers.add(x.item(i, 3));
            answers.add(x.item(i, 4));
        }
    }

    private static void addNow(LevelVotes x, List<Integer> answers) {
        for (int what = 2; what <= 7; what++) {
            answers.add(x.told(what));
        }
        answers.add(x.told(12));
        for (int i = 0; i < x.told(2); i++) {
            answers.add(x.item(i, 3));
            answers.add(x.item(i, 4));
        }
        int seed = x.seed(0);
        x.seed(seed);
        answers.add(seed);
    }
}
