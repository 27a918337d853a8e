/** Promises 9 to 12: vote, session, drift, undo. */
public final class DoneTest {
    private static final Due due = new Due();

    public static void main(String[] args) {
        vote();
        session();
        drift();
        driftWithoutVoters();
        fullOfSessions();
        undo();
        undoForgets();
        undoForgetsVotes();
        undoOfRefused();
        due.end();
    }

    private static void vote() {
        LevelVotes x = Due.made("h1 1;i0 0 3;i0 0 4;p20000;p20000;");
        due.is("one yes", x.vote(0, 0, 1), 1);
        due.is("two yes", x.vote(1, 0, 1), 2);
        due.is("a yes, a no", x.vote(1, 0, 0), 0);
        due.is("a yes, one abstains", x.vote(1, 0, 2), 1);
        due.is("the same again", x.vote(1, 0, 2), 1);
        due.is("all are kept", x.told(12), 5);
        due.is("votes", x.votes(0, 0), 1);
        due.is("votes 1", x.votes(1, 0), 2);
        due.is("the other item", x.votes(0, 1), 0);
        due.is("yes, no longer no", x.vote(0, 1, 1), 0);
        due.is("no set", x.item(1, 4), 2);
        due.is("yes set", x.item(1, 3), 1);
        for (int bad : new int[] {-1, 2, 7, Integer.MIN_VALUE, Integer.MAX_VALUE}) {
            due.is("person " + bad, x.vote(bad, 0, 1), Due.UNKNOWN);
            due.is("item " + bad, x.vote(0, bad, 1), Due.UNKNOWN);
            due.is("both " + bad, x.vote(0, bad, 9), Due.UNKNOWN);
        }
        for (int bad : new int[] {-1, 3, Integer.MIN_VALUE, Integer.MAX_VALUE}) {
            due.is("how " + bad, x.vote(0, 0, bad), Due.OUTSIDE);
        }
        due.is("refused ones are not kept", x.told(12), 6);
        due.is("sessions", x.told(5), 0);
    }

    private static void session() {
        LevelVotes x = Due.made("h1 1;i0 0 3;i0 0 4;p12000;p11000;");
        due.is("session", x.session(), 21);
        due.is("sessions", x.told(5), 1);
        due.is("last", x.told(7), 21);
        x.vote(0, 0, 0);
        due.is("last stays", x.told(7), 21);
        due.is("session again", x.session(), 1);
        due.is("sessions 2", x.told(5), 2);
        due.is("last then", x.told(7), 1);
        x = Due.made("h1 1;");
        due.is("session without items", x.session(), 0);
        due.is("last without items", x.told(7), 0);
    }

    /** The seed's row told by hand: 12345, 1406932606, 654583775, 1449466924, ... from 0. */
    private static void drift() {
        LevelVotes x = Due.made("h1 1;i0 0 3;i0 0 4;p22222;p22222;p22222;");
        long seed = 0;
        int[][] votes = {{2, 2}, {2, 2}, {2, 2}};
        int held = 0;
        for (int n : new int[] {1, 2, 3, 4, 5, 6, 7, 8, 9, 10, 30, 59, 60, 1, 60}) {
            held += n;
            for (int k = 0; k < n; k++) {
                seed = (seed * 1103515245L + 12345L) % 2147483648L;
                int p = (int) (seed / 65536 % 3);
                seed = (seed * 1103515245L + 12345L) % 2147483648L;
                int i = (int) (seed / 65536 % 2);
                seed = (seed * 1103515245L + 12345L) % 2147483648L;
                votes[p][i] = (int) (seed / 65536 % 3);
            }
            int drifted = x.drift(n);
            due.is("drift(" + n + ")", drifted, x.told(6));
            due.is("last of drift(" + n + ")", drifted, x.told(7));
            due.is("sessions of drift(" + n + ")", x.told(5), held);
            for (int p = 0; p < 3; p++) {
                for (int i = 0; i < 2; i++) {
                    due.is("votes(" + p + ", " + i + ")", x.votes(p, i), votes[p][i]);
                }
            }
        }
        due.is("seed", x.seed(1), (int) seed);
        for (int n : new int[] {0, -1, 61, Integer.MIN_VALUE, Integer.MAX_VALUE}) {
            due.is("drift(" + n + ")", x.drift(n), Due.OUTSIDE);
            due.is("drift without a house(" + n + ")", new LevelVotes().drift(n), Due.OUTSIDE);
        }
        due.is("drift without a house", new LevelVotes().drift(60), Due.NOT);
    }

    private static void driftWithoutVoters() {
        for (String text : new String[] {"h1 1;", "h1 1;p11111;", "h1 1;i0 0 3;"}) {
            LevelVotes x = Due.made(text);
            x.seed(9);
            due.is("drift", x.drift(7), 0);
            due.is("no session is held", x.told(5), 0);
            due.is("no last", x.told(7), Due.NONE);
            due.is("no draw", x.seed(0), 9);
            due.is("it was not refused", x.told(12), 1);
            x.session();
            due.is("drift behind a session", x.drift(60), 0);
            due.is("the one session", x.told(5), 1);
            due.is("its last", x.told(7), 0);
            due.is("drift undone", x.undo(), 2);
            due.is("the session is still there", x.told(5), 1);
            due.is("session undone", x.undo(), 1);
            due.is("no session", x.told(5), 0);
            due.is("first drift undone", x.undo(), 0);
            due.is("outside", x.drift(61), Due.OUTSIDE);
        }
    }

    private static void fullOfSessions() {
        LevelVotes x = Due.made("h1 1;i0 0 3;p12222;");
        for (int k = 0; k < 150; k++) {
            x.drift(60);
        }
        due.is("9000", x.told(5), 9000);
        due.is("one more", x.session() >= 0 ? 1 : 0, 1);
        due.is("9001", x.told(5), 9001);
        due.is("full session", x.session(), Due.FULL);
        due.is("full drift", x.drift(1), Due.FULL);
        due.is("outside is told first", x.drift(0), Due.OUTSIDE);
        due.is("nothing changed", x.told(5), 9001);
        due.is("one is undone", x.undo(), 19);
        due.is("9000 again", x.told(5), 9000);
        x.drift(60);
        due.is("9060", x.told(5), 9060);
        due.is("full drift at 9060", x.drift(1), Due.FULL);
        due.is("full session at 9060", x.session(), Due.FULL);
        due.is("votes are not sessions", x.vote(0, 0, 1), 1);
        x.keep(0);
        due.is("an image keeps them", x.goBack(0), 1);
        due.is("9060 by the image", x.told(5), 9060);
        due.is("full still", x.session(), Due.FULL);
        Due.tell(x, "h1 1;");
        due.is("a new house has none", x.session(), 0);
        due.is("one session", x.told(5), 1);
    }

    private static void undo() {
        LevelVotes x = Due.made("h1 1;i0 0 3;p02222;p22222;");
        due.is("none", x.undo(), Due.NOT);
        x.vote(0, 0, 1);
        x.session();
        x.seed(5);
        x.drift(9);
        int seed = x.seed(0);
        x.seed(seed);
        due.is("drift undone", x.undo(), 2);
        due.is("sessions", x.told(5), 1);
        due.is("last", x.told(7), 1);
        due.is("vote", x.votes(0, 0), 1);
        due.is("vote 1", x.votes(1, 0), 2);
        due.is("the seed stays", x.seed(seed), seed);
        due.is("session undone", x.undo(), 1);
        due.is("no sessions", x.told(5), 0);
        due.is("no last", x.told(7), Due.NONE);
        due.is("vote stays", x.votes(0, 0), 1);
        due.is("vote undone", x.undo(), 0);
        due.is("as told", x.votes(0, 0), 0);
        due.is("none more", x.undo(), Due.NOT);
    }

    private static void undoForgets() {
        LevelVotes x = Due.made("h1 1;i0 0 3;p02222;p22222;");
        for (int k = 1; k <= 45; k++) {
            x.session();
            due.is("kept", x.told(12), Math.min(k, 20));
        }
        for (int k = 19; k >= 0; k--) {
            due.is("undo", x.undo(), k);
            due.is("sessions", x.told(5), 25 + k);
            due.is("told(12)", x.told(12), k);
        }
        due.is("no more", x.undo(), Due.NOT);
        due.is("25 stay", x.told(5), 25);
        x.vote(0, 0, 1);
        x.vote(0, 0, 2);
        due.is("one of two", x.undo(), 1);
        due.is("the vote", x.votes(0, 0), 1);
    }

    /** Twenty are kept, with the votes of each; the 21st from the end is lost. */
    private static void undoForgetsVotes() {
        for (int done = 19; done <= 22; done++) {
            LevelVotes x = Due.made("h1 1;i0 0 3;i0 0 4;p00222;p22222;p22222;");
            for (int k = 0; k < done; k++) {
                x.vote(k % 3, k % 2, (k + 1) % 3);
            }
            LevelVotes early = Due.made("h1 1;i0 0 3;i0 0 4;p00222;p22222;p22222;");
            for (int k = 0; k < done - 20; k++) {
                early.vote(k % 3, k % 2, (k + 1) % 3);
            }
            int kept = Math.min(done, 20);
            due.is("kept of " + done, x.told(12), kept);
            for (int k = kept - 1; k >= 0; k--) {
                due.is("undo of " + done, x.undo(), k);
            }
            due.is("no more of " + done, x.undo(), Due.NOT);
            for (int k = 0; k < 6; k++) {
                due.is("vote " + k + " of " + done, x.votes(k / 2, k % 2), early.votes(k / 2, k % 2));
            }
        }
    }

    /** What was refused is not the latest: the one ahead of it is undone. */
    private static void undoOfRefused() {
        LevelVotes x = Due.made("h1 1;i0 0 3;p02222;");
        x.vote(0, 0, 1);
        x.vote(0, 0, 3);
        x.vote(1, 0, 0);
        x.drift(0);
        x.drift(61);
        due.is("one is kept", x.told(12), 1);
        due.is("it is undone", x.undo(), 0);
        due.is("the vote as told", x.votes(0, 0), 0);
        due.is("none", x.undo(), Due.NOT);
        due.is("none again", x.undo(), Due.NOT);
        due.is("undo itself is not kept", x.told(12), 0);
    }
}
