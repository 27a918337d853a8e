/** Promises 20 to 25: see, stood, look, write, tear, judge. */
public final class SeenTest {
    private static final Due due = new Due();
    private static final int[] NO_NUMBERS = {-1, 20, 31, 32, Integer.MIN_VALUE, Integer.MAX_VALUE};

    public static void main(String[] args) {
        see();
        stood();
        stoodDoesNotAskWhoVotes();
        stoodByAllSix();
        look();
        lookCountsEachWayOnce();
        lookAtEachCell();
        lookWithNothingToPart();
        write();
        tear();
        judge();
        due.end();
    }

    private static void see() {
        LevelVotes x = Due.made("h2 1;");
        for (int k = 1; k <= 6; k++) {
            due.is("see " + k, x.see(k % 2, k % 2), k);
        }
        due.is("a seventh", x.see(0, 0), Due.FULL);
        due.is("six", x.told(10), 6);
        for (int c : NO_NUMBERS) {
            due.is("from " + c, x.see(c, 0), Due.UNKNOWN);
            due.is("to " + c, x.see(0, c), Due.UNKNOWN);
        }
        due.is("from 2", x.see(2, 0), Due.UNKNOWN);
        due.is("to 2", x.see(0, 2), Due.UNKNOWN);
    }

    private static void stood() {
        LevelVotes x = Due.made("h3 1;g5,4,3;i0 0 2;i2 2 9;p02222;");
        due.is("all ways", x.stood(-1), 9);
        int[] rising = {0, 1, 2, 10, 11, 12, 20, 21, 22};
        for (int i = 0; i < 9; i++) {
            due.is("way " + i, x.stood(i), rising[i]);
        }
        due.is("way 9", x.stood(9), Due.NONE);
        due.is("way max", x.stood(Integer.MAX_VALUE), Due.NONE);
        due.is("way -2", x.stood(-2), Due.NONE);
        due.is("way min", x.stood(Integer.MIN_VALUE), Due.NONE);
        x.see(0, 0);
        due.is("item 0 stood", x.stood(-1), 6);
        due.is("the first of six", x.stood(0), 10);
        due.is("the last of six", x.stood(5), 22);
        due.is("no seventh", x.stood(6), Due.NONE);
        x.see(1, 2);
        due.is("nor did that happen", x.stood(-1), 0);
        due.is("none is first", x.stood(0), Due.NONE);
        x.tear();
        x.see(1, 2);
        due.is("all fell", x.stood(-1), 1);
        due.is("that way", x.stood(0), 0);
        x.tear();
        x.see(2, 1);
        x.see(1, 1);
        due.is("cell 1 is lowest when item 1 stood alone", x.stood(-1), 2);
        due.is("that way then", x.stood(0), 1);
    }

    private static void stoodDoesNotAskWhoVotes() {
        LevelVotes x = Due.made("h1 1;i0 0 1;i0 0 1;i0 0 1;i0 0 1;i0 0 1;");
        due.is("five items", x.stood(-1), 243);
        due.is("the last", x.stood(242), 22222);
        due.is("behind it", x.stood(243), Due.NONE);
        x = Due.made("h1 1;p00000;");
        due.is("no items", x.stood(-1), 1);
        due.is("the one way", x.stood(0), 0);
        due.is("no other", x.stood(1), Due.NONE);
    }

    /** Each of six entries counts: the first, the last, and none but them. */
    private static void stoodByAllSix() {
        for (int place = 0; place < 6; place++) {
            LevelVotes x = Due.made("h3 1;g5,4,3;i0 0 2;i2 2 9;");
            for (int k = 0; k < 6; k++) {
                if (k == place) {
                    x.see(0, 0);
                } else {
                    x.see(2, 2);
                }
            }
            due.is("item 0 stood and item 1 not, told at " + place, x.stood(-1), 2);
            due.is("the first, told at " + place, x.stood(0), 10);
            due.is("the second, told at " + place, x.stood(1), 20);
            due.is("no third, told at " + place, x.stood(2), Due.NONE);
            x.see(1, 1);
            due.is("a seventh does not count, told at " + place, x.stood(-1), 2);
        }
    }

    private static void look() {
        // Cell 0 tells fell, close from firm (rests in 1, 1, 0); cell 1 never moves.
        LevelVotes x = Due.made("h2 1;g9,1;i0 1 5;");
        due.is("parts 2 and 1", x.look(), 0);
        // Like parts: cells 0 and 2 tell as much, the least is taken.
        x = Due.made("h5 1;g9,1,9,9,9;i0 0 1;i2 2 1;");
        due.is("the least of like ones", x.look(), 0);
        // Cells 0 and 3 part nothing; cell 1 parts the nine ways into 7 and 2, cell 2 into 6 and 3.
        x = Due.made("h4 1;g5,6,5,4;i0 0 3;i2 2 4;");
        due.is("the greatest part that is least", x.look(), 2);
        due.is("the same again", x.look(), 2);
        x.see(2, 2);
        due.is("among those that stay", x.look(), 1);
    }

    private static void lookCountsEachWayOnce() {
        // One item: cell 0 parts 0, 2 from 1, cells 2 and 3 part 0 from 1, 2: two alike at most in each.
        LevelVotes x = Due.made("h4 1;g5,5,7,6;i0 2 5;");
        due.is("the least of three", x.look(), 0);
        x.see(3, 2);
        due.is("1 from 2", x.look(), 0);
        x.see(0, 1);
        due.is("close alone", x.look(), Due.NONE);
        due.is("that way", x.stood(0), 1);
    }

    /** One high cell, which one item would make as low as all others: its marble alone tells. */
    private static void lookAtEachCell() {
        for (int c = 0; c < 20; c++) {
            StringBuilder text = new StringBuilder("h5 4;");
            for (int k = 0; k < 20; k++) {
                text.append(k == 0 ? 'g' : ',').append(k == c ? 9 : 0);
            }
            LevelVotes x = Due.made(text + ";i" + c + " " + c + " 0;");
            due.is("cell " + c + " alone parts them", x.look(), c);
            x.see(c, c);
            due.is("it stood, cell " + c, x.stood(Due.NONE), 2);
            due.is("nothing more parts them, cell " + c, x.look(), Due.NONE);
        }
    }

    private static void lookWithNothingToPart() {
        due.is("no house", new LevelVotes().look(), Due.NONE);
        due.is("no items", Due.made("h3 1;g1,2,3;").look(), Due.NONE);
        LevelVotes x = Due.made("h3 1;g5,4,3;i0 0 2;");
        due.is("cell 0 parts", x.look(), 0);
        x.see(0, 0);
        due.is("close and firm alike", x.look(), Due.NONE);
        x.see(0, 1);
        due.is("no way at all", x.look(), Due.NONE);
    }

    private static void write() {
        LevelVotes x = Due.made("h2 1;");
        for (int k = 1; k <= 15; k++) {
            due.is("write " + k, x.write(k % 2, k % 10), k);
        }
        due.is("a sixteenth", x.write(0, 0), Due.FULL);
        due.is("15", x.told(11), 15);
        due.is("outside before full", x.write(0, 10), Due.OUTSIDE);
        x.tear();
        due.is("height -1", x.write(0, -1), Due.OUTSIDE);
        due.is("height 10", x.write(0, 10), Due.OUTSIDE);
        due.is("height min", x.write(0, Integer.MIN_VALUE), Due.OUTSIDE);
        for (int c : NO_NUMBERS) {
            due.is("cell " + c, x.write(c, 10), Due.UNKNOWN);
        }
        due.is("cell 2", x.write(2, 0), Due.UNKNOWN);
        due.is("none was written", x.told(11), 0);
        due.is("height 9", x.write(1, 9), 1);
    }

    private static void tear() {
        LevelVotes x = Due.made("h2 1;i0 0 0;p12222;");
        x.see(0, 0);
        x.write(1, 3);
        x.write(1, 4);
        x.vote(0, 0, 0);
        due.is("both", x.tear(), 3);
        due.is("nothing seen", x.told(10), 0);
        due.is("no book", x.told(11), 0);
        due.is("votes stay to be undone", x.told(12), 1);
        due.is("nothing more", x.tear(), 0);
        for (int k = 0; k < 16; k++) {
            x.see(0, 0);
            x.write(0, 9);
        }
        due.is("both full", x.tear(), 21);
        due.is("nothing seen then", x.told(10), 0);
        due.is("no book then", x.told(11), 0);
        due.is("seen anew", x.see(0, 0), 1);
        due.is("a book anew", x.write(0, 9), 1);
    }

    private static void judge() {
        LevelVotes x = Due.made("h3 1;g7,8,9;i1 1 2;p22222;");
        due.is("no entry", x.judge(), Due.NONE);
        x.write(2, 9);
        x.write(1, 8);
        x.write(0, 7);
        due.is("all right", x.judge(), Due.NONE);
        x.vote(0, 0, 1);
        due.is("the second is wrong now", x.judge(), 1);
        x.undo();
        due.is("right again", x.judge(), Due.NONE);
        x.write(0, 6);
        due.is("the fourth", x.judge(), 3);
        x.write(0, 5);
        due.is("still the fourth", x.judge(), 3);
        x.tear();
        x.write(2, 8);
        x.write(2, 8);
        due.is("the first", x.judge(), 0);
        x.tear();
        for (int k = 0; k < 14; k++) {
            x.write(k % 3, 7 + k % 3);
        }
        due.is("14 are right", x.judge(), Due.NONE);
        x.write(0, 0);
        due.is("the fifteenth is wrong", x.judge(), 14);
        x.write(0, 1);
        due.is("a sixteenth is not told", x.judge(), 14);
        x.tear();
        due.is("torn", x.judge(), Due.NONE);
        x.write(0, 7);
        due.is("nothing is left of the old book", x.judge(), Due.NONE);
    }
}
