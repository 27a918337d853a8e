import java.util.function.Consumer;

/**
 * The refusals of all promises, in each state that has some: of several the first in the document's
 * order, and what is refused changes nothing; nor does what is tried or told.
 */
public final class RefusalsTest {
    private static final Due due = new Due();
    private static final int MIN = Integer.MIN_VALUE, MAX = Integer.MAX_VALUE;
    /** 3 by 2 cells, two items, two persons; so 6, 2 and 2 are the first numbers that there are not. */
    private static final String HOUSE = "h3 2;g5,4,3,2;i0 4 2;i2 5 1;p10222;p12222;";

    private static final int[] NO_CELL = {-1, 6, 20, 31, 32, 64, MIN, MAX};
    private static final int[] NO_ITEM = {-1, 2, 5, 32, MIN, MAX};
    private static final int[] NO_PERSON = {-1, 2, 7, 32, MIN, MAX};
    private static final int[] NO_IMAGE = {-1, 2, 32, MIN, MAX};

    public static void main(String[] args) {
        ordinaryHouse();
        withoutHouse();
        fullOfAll();
        fullOfSessions();
        textWithFault();
        whatIsTriedChangesNothing();
        twinsTellChanges();
        due.end();
    }

    /** A house with something of all that there is, and an empty text. */
    private static void settled(LevelVotes x) {
        Due.tell(x, HOUSE);
        x.seed(77);
        x.drift(3);
        x.keep(1);
        x.vote(0, 1, 2);
        x.session();
        x.vote(1, 0, 0);
        x.see(3, 3);
        x.write(5, x.cell(5, 0));
    }

    /** The same with a text that has begun. */
    private static void ordinary(LevelVotes x) {
        settled(x);
        x.feed('h');
        x.feed('2');
        x.feed(' ');
        x.feed('2');
    }

    private static void ordinaryHouse() {
        Twins twins = new Twins(due, "ordinary", RefusalsTest::ordinary);
        refusedInAllStates(twins);
        cellsThatThereAreNot(twins, NO_CELL);
        itemsThatThereAreNot(twins, NO_ITEM);
        personsThatThereAreNot(twins, NO_PERSON);
        numbersOutOfBounds(twins);
        refusedDrift(twins);
        twins.refuses("goBack(0), not kept", x -> x.goBack(0), Due.NOT);
    }

    private static void withoutHouse() {
        int[] every = {0, 1, -1, MIN, MAX};
        Consumer<LevelVotes> gone = x -> {
            ordinary(x);
            x.house();
            Due.tell(x, "");
            x.seed(5);
        };
        for (int k = 0; k < 2; k++) {
            Twins twins = k == 0 ? new Twins(due, "new", x -> { }) : new Twins(due, "house gone", gone);
            refusedInAllStates(twins);
            cellsThatThereAreNot(twins, every);
            itemsThatThereAreNot(twins, every);
            personsThatThereAreNot(twins, every);
            refusedDrift(twins);
            twins.refuses("session()", x -> x.session(), Due.NOT);
            twins.refuses("drift(1)", x -> x.drift(1), Due.NOT);
            twins.refuses("drift(60)", x -> x.drift(60), Due.NOT);
            twins.refuses("undo()", x -> x.undo(), Due.NOT);
            twins.refuses("goBack(0)", x -> x.goBack(0), Due.NOT);
            twins.refuses("goBack(1)", x -> x.goBack(1), Due.NOT);
        }
    }

    /** 6 seen, 15 entries, 20 to be undone. */
    private static void full(LevelVotes x) {
        Due.tell(x, "h3 2;g5,4;i0 4 2;i2 5 1;p10222;p12222;");
        x.keep(0);
        for (int k = 0; k < 25; k++) {
            x.vote(k % 2, k % 3 % 2, k % 3);
        }
        for (int k = 0; k < 15; k++) {
            x.write(k % 6, k % 10);
        }
        for (int k = 0; k < 6; k++) {
            x.see(k, k);
        }
    }

    private static void fullOfAll() {
        Twins twins = new Twins(due, "full", RefusalsTest::full);
        refusedInAllStates(twins);
        cellsThatThereAreNot(twins, NO_CELL);
        itemsThatThereAreNot(twins, NO_ITEM);
        personsThatThereAreNot(twins, NO_PERSON);
        numbersOutOfBounds(twins);
        refusedDrift(twins);
        twins.refuses("see(0, 0), a seventh", x -> x.see(0, 0), Due.FULL);
        twins.refuses("write(0, 0), a sixteenth", x -> x.write(0, 0), Due.FULL);
        twins.refuses("write(5, 9), a sixteenth", x -> x.write(5, 9), Due.FULL);
        Twins letters = new Twins(due, "240 letters", x -> {
            for (int k = 0; k < 240; k++) {
                x.feed("h2 2;".charAt(Math.min(k, 4)));
            }
        });
        letters.refuses("feed(32), a 241st", x -> x.feed(32), Due.FULL);
        letters.refuses("feed(0), a 241st", x -> x.feed(0), Due.FULL);
        letters.refuses("feed(255), a 241st", x -> x.feed(255), Due.FULL);
        refusedFeed(letters);
    }

    private static void fullOfSessions() {
        Twins twins = new Twins(due, "9001 sessions", x -> {
            Due.tell(x, "h1 1;i0 0 3;i0 0 2;p11222;");
            for (int k = 0; k < 150; k++) {
                x.drift(60);
            }
            x.session();
        });
        twins.refuses("session()", x -> x.session(), Due.FULL);
        twins.refuses("drift(1)", x -> x.drift(1), Due.FULL);
        twins.refuses("drift(60)", x -> x.drift(60), Due.FULL);
        refusedDrift(twins);
        twins.changes("vote(0, 0, 2)", x -> x.vote(0, 0, 2));
    }

    /** A fault of each kind, as late in a text as it can be. */
    private static void textWithFault() {
        Consumer<LevelVotes> gone = x -> {
            settled(x);
            x.house();
            x.seed(3);
        };
        Twins[] each = {new Twins(due, "settled", RefusalsTest::settled), new Twins(due, "full", RefusalsTest::full),
                new Twins(due, "new", x -> { }), new Twins(due, "house gone", gone)};
        for (Twins twins : each) {
            twins.faults("x", 1, 0);
            twins.faults("h5 4;g9;i0 19 9;p00000;p00000;p11111;x", 1, 37);
            twins.faults("h5 4;g9;i0 19 9;p00000;p00000;p11112", 1, 36);
            twins.faults("h5 4;g9;i0 19 9;p00000;p00000;p11113;", 2, 31);
            twins.faults("h1 1;g8;i0 0 9;p00000;p00000;h", 3, 29);
            twins.faults("h1 1;g8;i0 0 9;p00000;p00000;g", 3, 29);
            twins.faults("h2 2;g8;p11111;i0 0 9;p00000;i3 2 9;", 4, 32);
        }
    }

    private static void refusedInAllStates(Twins twins) {
        refusedFeed(twins);
        for (int what : new int[] {-1, 13, MIN, MAX}) {
            twins.refuses("told(" + what + ")", x -> x.told(what), Due.OUTSIDE);
        }
        for (int n : new int[] {-1, 61, MIN, MAX}) {
            twins.refuses("recount(" + n + ", 0)", x -> x.recount(n, 0), Due.OUTSIDE);
        }
        for (int q : new int[] {-1, 101, MIN, MAX}) {
            twins.refuses("recount(0, " + q + ")", x -> x.recount(0, q), Due.OUTSIDE);
        }
        for (int v : new int[] {-1, -2, MIN}) {
            twins.refuses("seed(" + v + ")", x -> x.seed(v), Due.OUTSIDE);
        }
        for (int i : NO_IMAGE) {
            twins.refuses("keep(" + i + ")", x -> x.keep(i), Due.UNKNOWN);
            twins.refuses("goBack(" + i + ")", x -> x.goBack(i), Due.UNKNOWN);
        }
    }

    private static void refusedFeed(Twins twins) {
        for (int letter : new int[] {-1, 256, MIN, MAX}) {
            twins.refuses("feed(" + letter + ")", x -> x.feed(letter), Due.OUTSIDE);
        }
    }

    /** Ahead of NOT and FULL, so in every state. */
    private static void refusedDrift(Twins twins) {
        for (int n : new int[] {0, -1, 61, MIN, MAX}) {
            twins.refuses("drift(" + n + ")", x -> x.drift(n), Due.OUTSIDE);
        }
    }

    /** UNKNOWN is ahead of OUTSIDE and FULL. */
    private static void cellsThatThereAreNot(Twins twins, int[] numbers) {
        for (int c : numbers) {
            for (int what : new int[] {0, 1, 2, 3, -1, MAX}) {
                twins.refuses("cell(" + c + ", " + what + ")", x -> x.cell(c, what), Due.UNKNOWN);
                twins.refuses("rests(" + c + ", " + what + ")", x -> x.rests(c, what), Due.UNKNOWN);
                twins.refuses("fewest(" + c + ", 0, " + what + ")", x -> x.fewest(c, 0, what), Due.UNKNOWN);
                twins.refuses("fewest(0, " + c + ", " + what + ")", x -> x.fewest(0, c, what), Due.UNKNOWN);
                twins.refuses("write(" + c + ", " + what + ")", x -> x.write(c, what), Due.UNKNOWN);
            }
            twins.refuses("pool(" + c + ")", x -> x.pool(c), Due.UNKNOWN);
            twins.refuses("see(" + c + ", 0)", x -> x.see(c, 0), Due.UNKNOWN);
            twins.refuses("see(0, " + c + ")", x -> x.see(0, c), Due.UNKNOWN);
            twins.refuses("see(" + c + ", " + c + ")", x -> x.see(c, c), Due.UNKNOWN);
        }
        for (int set : new int[] {1 << 6, 1 << 6 | 1, 1 << 20, 1 << 30, -1, MIN, MIN + 1, MAX}) {
            twins.refuses("waltz(" + set + ")", x -> x.waltz(set), Due.UNKNOWN);
        }
    }

    private static void itemsThatThereAreNot(Twins twins, int[] numbers) {
        for (int i : numbers) {
            for (int what : new int[] {0, 5, 6, -1, MIN}) {
                twins.refuses("item(" + i + ", " + what + ")", x -> x.item(i, what), Due.UNKNOWN);
            }
            for (int how : new int[] {0, 2, 3, -1, MIN}) {
                twins.refuses("vote(0, " + i + ", " + how + ")", x -> x.vote(0, i, how), Due.UNKNOWN);
            }
            twins.refuses("votes(0, " + i + ")", x -> x.votes(0, i), Due.UNKNOWN);
            twins.refuses("tips(" + i + ")", x -> x.tips(i), Due.UNKNOWN);
        }
    }

    private static void personsThatThereAreNot(Twins twins, int[] numbers) {
        for (int p : numbers) {
            for (int how : new int[] {0, 2, 3, -1, MIN}) {
                twins.refuses("vote(" + p + ", 0, " + how + ")", x -> x.vote(p, 0, how), Due.UNKNOWN);
            }
            twins.refuses("votes(" + p + ", 0)", x -> x.votes(p, 0), Due.UNKNOWN);
        }
    }

    /** Of cells, items and persons that there are; OUTSIDE is ahead of FULL. */
    private static void numbersOutOfBounds(Twins twins) {
        for (int what : new int[] {-1, 3, MIN, MAX}) {
            twins.refuses("cell(5, " + what + ")", x -> x.cell(5, what), Due.OUTSIDE);
            twins.refuses("vote(1, 1, " + what + ")", x -> x.vote(1, 1, what), Due.OUTSIDE);
        }
        for (int what : new int[] {-1, 6, MIN, MAX}) {
            twins.refuses("item(1, " + what + ")", x -> x.item(1, what), Due.OUTSIDE);
        }
        for (int what : new int[] {-1, 2, MIN, MAX}) {
            twins.refuses("rests(5, " + what + ")", x -> x.rests(5, what), Due.OUTSIDE);
            twins.refuses("fewest(5, 5, " + what + ")", x -> x.fewest(5, 5, what), Due.OUTSIDE);
        }
        for (int height : new int[] {-1, 10, MIN, MAX}) {
            twins.refuses("write(5, " + height + ")", x -> x.write(5, height), Due.OUTSIDE);
        }
    }

    private static void whatIsTriedChangesNothing() {
        Twins[] each = {new Twins(due, "ordinary", RefusalsTest::ordinary), new Twins(due, "full", RefusalsTest::full)};
        for (Twins twins : each) {
            for (int k = 0; k <= 12; k++) {
                int what = k;
                twins.changesNothing("told(" + what + ")", x -> x.told(what));
            }
            for (int k = 0; k <= 5; k++) {
                int what = k;
                twins.changesNothing("cell(1, " + what % 3 + ")", x -> x.cell(1, what % 3));
                twins.changesNothing("item(1, " + what + ")", x -> x.item(1, what));
                twins.changesNothing("rests(0, " + what % 2 + ")", x -> x.rests(0, what % 2));
                twins.changesNothing("fewest(0, " + what + ", " + what % 2 + ")", x -> x.fewest(0, what, what % 2));
                twins.changesNothing("pool(" + what + ")", x -> x.pool(what));
                twins.changesNothing("stood(" + (what - 1) + ")", x -> x.stood(what - 1));
            }
            twins.changesNothing("votes(1, 1)", x -> x.votes(1, 1));
            twins.changesNothing("tips(0)", x -> x.tips(0));
            twins.changesNothing("carry()", x -> x.carry());
            twins.changesNothing("waltz(63)", x -> x.waltz(63));
            twins.changesNothing("recount(60, 1)", x -> x.recount(60, 1));
            twins.changesNothing("look()", x -> x.look());
            twins.changesNothing("judge()", x -> x.judge());
            twins.changesNothing("fault()", x -> x.fault());
        }
    }

    /** Were the twins blind, the tests above would hold nothing. */
    private static void twinsTellChanges() {
        Twins twins = new Twins(due, "ordinary", RefusalsTest::ordinary);
        twins.changes("feed(32)", x -> x.feed(32));
        twins.changes("house()", x -> x.house());
        twins.changes("vote, the same as it is", x -> x.vote(1, 0, 0));
        twins.changes("session()", x -> x.session());
        twins.changes("drift(1)", x -> x.drift(1));
        twins.changes("undo()", x -> x.undo());
        twins.changes("see(3, 3)", x -> x.see(3, 3));
        twins.changes("write(5, 0)", x -> x.write(5, 0));
        twins.changes("tear()", x -> x.tear());
        twins.changes("seed(78)", x -> x.seed(78));
        twins.changes("keep(0)", x -> x.keep(0));
        twins.changes("keep(1)", x -> x.keep(1));
        twins.changes("goBack(1)", x -> x.goBack(1));
    }
}
