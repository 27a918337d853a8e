/** Promises 13 to 19: rests, pool, tips, fewest, carry, waltz, recount. */
public final class TriedTest {
    private static final Due due = new Due();
    private static final int[] NO_NUMBERS = {-1, 20, 31, 32, Integer.MIN_VALUE, Integer.MAX_VALUE};

    public static void main(String[] args) {
        rolls();
        likeNeighbours();
        edgesOfTheHill();
        longestRoll();
        pool();
        tips();
        tipsOfAllVotes();
        fewest();
        fewestOfEachItem();
        fewestOfLikeOnes();
        fewestOutOfReach();
        carry();
        waltz();
        recount();
        nothingChanges();
        due.end();
    }

    private static void rolls() {
        LevelVotes x = Due.made("h5 1;g9,7,5,3,1;");
        for (int c = 0; c < 5; c++) {
            due.is("rests " + c, x.rests(c, 0), 4);
            due.is("rolls " + c, x.rests(c, 1), 4 - c);
        }
        x = Due.made("h5 2;g9,8,7,6,5,0,1,2,3,4;");
        due.is("the longest way is not taken", x.rests(0, 0), 5);
        due.is("one step", x.rests(0, 1), 1);
        due.is("round the corner", x.rests(4, 1), 5);
        for (int c : NO_NUMBERS) {
            due.is("rests of " + c, x.rests(c, 0), Due.UNKNOWN);
            due.is("rests of " + c + ", 9", x.rests(c, 9), Due.UNKNOWN);
        }
        due.is("cell 10", x.rests(10, 0), Due.UNKNOWN);
        due.is("what 2", x.rests(0, 2), Due.OUTSIDE);
        due.is("what -1", x.rests(0, -1), Due.OUTSIDE);
    }

    private static void likeNeighbours() {
        LevelVotes x = Due.made("h3 3;g9,1,9,1,5,1,9,1,9;");
        due.is("above of four like ones", x.rests(4, 0), 1);
        x = Due.made("h3 3;g9,2,9,1,5,1,9,1,9;");
        due.is("left of three like ones", x.rests(4, 0), 3);
        x = Due.made("h3 3;g9,2,9,2,5,1,9,1,9;");
        due.is("right of two like ones", x.rests(4, 0), 5);
        x = Due.made("h3 3;g9,2,9,2,5,2,9,1,9;");
        due.is("below, the lowest", x.rests(4, 0), 7);
        x = Due.made("h3 1;g5,5,4;");
        due.is("like height does not roll", x.rests(0, 0), 0);
        due.is("like height, none rolled over", x.rests(0, 1), 0);
    }

    private static void edgesOfTheHill() {
        // Cell 3 ends a row and cell 4 begins the next: they are no neighbours.
        LevelVotes x = Due.made("h4 2;g9,9,9,5,0,9,9,9;");
        due.is("not over the right edge", x.rests(3, 0), 3);
        x = Due.made("h4 2;g9,9,9,0,5,9,9,9;");
        due.is("not over the left edge", x.rests(4, 0), 4);
        x = Due.made("h4 2;g0,9,9,9,5,9,9,9;");
        due.is("up to cell 0", x.rests(4, 0), 0);
        x = Due.made("h1 4;g3,2,1,0;");
        due.is("one column", x.rests(0, 1), 3);
        x = Due.made("h1 1;");
        due.is("one cell", x.rests(0, 0), 0);
    }

    /** Heights are 0 to 9, so none rolls over more than nine cells. */
    private static void longestRoll() {
        LevelVotes x = Due.made("h5 4;g9,8,7,6,5,9,9,9,9,4,9,0,1,2,3,9,9,9,9,9;");
        due.is("nine cells", x.rests(0, 1), 9);
        due.is("down to 0", x.rests(0, 0), 11);
        due.is("at rest", x.rests(11, 0), 11);
        due.is("over none", x.rests(11, 1), 0);
        due.is("the last cell", x.rests(19, 0), 11);
    }

    private static void pool() {
        LevelVotes x = Due.made("h5 1;g1,2,3,2,1;");
        int[] want = {3, 0, 0, 0, 2};
        for (int c = 0; c < 5; c++) {
            due.is("pool " + c, x.pool(c), want[c]);
        }
        for (int c : NO_NUMBERS) {
            due.is("pool of " + c, x.pool(c), Due.UNKNOWN);
        }
        due.is("pool of 5", x.pool(5), Due.UNKNOWN);
    }

    private static void tips() {
        // Leads: 2 (two yes, two abstain), 3 (three yes, one abstains), 0 (two against two), -4, 4.
        LevelVotes x = Due.made("h1 1;i0 0 1;i0 0 1;i0 0 1;i0 0 1;i0 0 1;p11101;p11101;p21001;p22001;");
        due.is("firm by two", x.tips(0), 15);
        due.is("firm by three", x.tips(1), 7);
        due.is("a draw", x.tips(2), 12);
        due.is("far from it", x.tips(3), 0);
        due.is("firm by four", x.tips(4), 0);
        x = Due.made("h1 1;i0 0 1;p02222;p22222;");
        due.is("one against", x.tips(0), 1);
        x = Due.made("h1 1;i0 0 1;");
        due.is("nobody", x.tips(0), 0);
        for (int i : new int[] {-1, 1, 5, Integer.MIN_VALUE, Integer.MAX_VALUE}) {
            due.is("tips of " + i, x.tips(i), Due.UNKNOWN);
        }
    }

    /** All votes of three persons on an item: each is tried by his votes, and undone. */
    private static void tipsOfAllVotes() {
        for (int votes = 0; votes < 27; votes++) {
            int[] how = {votes / 9, votes / 3 % 3, votes % 3};
            LevelVotes x = Due.made("h1 1;i0 0 1;p" + how[0] + "2222;p" + how[1] + "2222;p" + how[2] + "2222;");
            int stands = x.item(0, 2);
            int who = 0;
            for (int p = 0; p < 3; p++) {
                for (int other = 0; other < 3; other++) {
                    if (x.vote(p, 0, other) != stands) {
                        who |= 1 << p;
                    }
                    x.undo();
                }
            }
            due.is("tips of " + how[0] + how[1] + how[2], x.tips(0), who);
        }
    }

    private static void fewest() {
        LevelVotes x = Due.made("h3 1;g5,4,2;i0 0 3;i2 2 9;p02222;p22222;p22222;");
        due.is("as it is", x.fewest(0, 2, 0), 0);
        due.is("as it stands", x.fewest(0, 2, 1), 0);
        due.is("one from no to yes", x.fewest(0, 0, 0), 1);
        due.is("item 0 close", x.fewest(0, 0, 1), 10);
        due.is("cell 2 high", x.fewest(0, 1, 0), 1);
        due.is("item 1 close", x.fewest(0, 1, 1), 1);
        due.is("both", x.fewest(1, 0, 0), 2);
        due.is("both close", x.fewest(1, 0, 1), 11);
        due.is("a high cell", x.fewest(0, 5, 0), Due.UNKNOWN);
        x = Due.made("h2 1;g5,4;i0 1 5;p02222;p02222;p22222;");
        due.is("firm only", x.fewest(0, 0, 0), 2);
        due.is("firm", x.fewest(0, 0, 1), 2);
        // Three yes, three no and one abstains: two must turn from no for a lead of two, or one.
        x = Due.made("h2 1;g5,4;i0 1 5;p12222;p12222;p12222;p02222;p02222;p02222;p22222;");
        due.is("one turns from no to yes", x.fewest(0, 0, 0), 1);
        // Four yes, none against: they must be three fewer to be close, or two turn to no.
        x = Due.made("h2 1;g4,5;i0 1 4;p12222;p12222;p12222;p12222;");
        due.is("two turn from yes to no", x.fewest(0, 1, 0), 2);
        due.is("close by one against", x.fewest(0, 1, 1), 1);
        for (int c : NO_NUMBERS) {
            due.is("from " + c, x.fewest(c, 0, 0), Due.UNKNOWN);
            due.is("to " + c, x.fewest(0, c, 0), Due.UNKNOWN);
            due.is("unknown first " + c, x.fewest(0, c, 7), Due.UNKNOWN);
        }
        due.is("what 2", x.fewest(0, 0, 2), Due.OUTSIDE);
        due.is("what -1", x.fewest(0, 0, -1), Due.OUTSIDE);
    }

    /** Item k walls off what is below cell k; of seven persons 0, 1, 3, 5, 7 vote no on items 0 to 4. */
    private static void fewestOfEachItem() {
        int[] against = {0, 1, 3, 5, 7};
        StringBuilder text = new StringBuilder("h5 2;g5,5,5,5,5,4,4,4,4,4;");
        for (int i = 0; i < 5; i++) {
            text.append('i').append(5 + i).append(' ').append(5 + i).append(" 9;");
        }
        for (int p = 0; p < 7; p++) {
            text.append('p');
            for (int i = 0; i < 5; i++) {
                text.append(p < against[i] ? 0 : 2);
            }
            text.append(';');
        }
        LevelVotes x = Due.made(text.toString());
        int[] price = {1, 1, 2, 3, 4};
        int[] close = {10000, 1000, 100, 10, 1};
        for (int c = 0; c < 5; c++) {
            due.is("as it is, item " + c, x.fewest(c, 5 + c, 0), 0);
            due.is("none stands, item " + c, x.fewest(c, 5 + c, 1), 0);
            due.is("votes for item " + c, x.fewest(c, c, 0), price[c]);
            due.is("close, item " + c, x.fewest(c, c, 1), close[c]);
        }
    }

    private static void fewestOfLikeOnes() {
        LevelVotes x = Due.made("h2 1;g5,4;i0 0 3;i0 0 2;p22222;p22222;");
        due.is("one of two items", x.fewest(0, 0, 0), 1);
        due.is("the least number", x.fewest(0, 0, 1), 1);
        x = Due.made("h2 1;g4,5;i0 0 9;i0 1 9;p10222;p10222;");
        due.is("one turns from yes to no", x.fewest(0, 0, 0), 1);
        due.is("none stands then", x.fewest(0, 0, 1), 0);
    }

    private static void fewestOutOfReach() {
        LevelVotes x = Due.made("h2 1;g5,4;i0 1 5;p02222;");
        due.is("one person makes nothing firm", x.fewest(0, 0, 0), Due.NONE);
        due.is("nor stand", x.fewest(0, 0, 1), Due.NONE);
        x = Due.made("h2 1;g5,4;i0 1 5;");
        due.is("nobody", x.fewest(0, 0, 0), Due.NONE);
        due.is("as it is without anybody", x.fewest(0, 1, 0), 0);
    }

    private static void carry() {
        LevelVotes x = Due.made("h1 1;i0 0 1;i0 0 1;p11222;p12222;p21222;p22222;");
        due.is("firm already", x.carry(), 0);
        x = Due.made("h1 1;i0 0 1;i0 0 1;p10222;p12222;p21222;p22222;");
        due.is("the one against", x.carry(), 1);
        x = Due.made("h1 1;i0 0 1;p22222;p22222;p22222;");
        due.is("the first two", x.carry(), 3);
        x = Due.made("h1 1;i0 0 1;p12222;p02222;p22222;p22222;p22222;p22222;p02222;");
        due.is("fewer before less", x.carry(), 2 | 4);
        x = Due.made("h1 1;i0 0 1;p12222;");
        due.is("one alone cannot", x.carry(), Due.NONE);
        x = Due.made("h1 1;i0 0 1;i0 0 1;i0 0 1;i0 0 1;i0 0 1;p02222;p20222;p22022;p22202;p22220;p22222;p22222;");
        due.is("three of seven", x.carry(), 7);
        x = Due.made("h1 1;i0 0 1;");
        due.is("nobody", x.carry(), Due.NONE);
        x = Due.made("h1 1;p00000;");
        due.is("no items", x.carry(), 0);
    }

    private static void waltz() {
        LevelVotes x = Due.made("h3 1;g7,2,4;i2 2 0;p22222;");
        due.is("none", x.waltz(0), 0);
        due.is("one", x.waltz(1), 0);
        due.is("two", x.waltz(5), 3);
        due.is("other two", x.waltz(6), 2);
        due.is("all", x.waltz(7), 5);
        x.vote(0, 0, 1);
        due.is("all then", x.waltz(7), 7);
        due.is("a bit too high", x.waltz(8), Due.UNKNOWN);
        due.is("and one that is", x.waltz(9), Due.UNKNOWN);
        due.is("-1", x.waltz(-1), Due.UNKNOWN);
        due.is("min", x.waltz(Integer.MIN_VALUE), Due.UNKNOWN);
        x = Due.made("h5 4;g3;");
        due.is("all 20", x.waltz((1 << 20) - 1), 0);
        due.is("a 21st", x.waltz(1 << 20), Due.UNKNOWN);
        due.is("without a house", new LevelVotes().waltz(0), 0);
    }

    private static void recount() {
        LevelVotes x = new LevelVotes();
        due.is("no count", x.recount(0, 50), 1000000000);
        due.is("one", x.recount(1, 1), 990000000);
        due.is("sure", x.recount(60, 0), 1000000000);
        due.is("never", x.recount(1, 100), 0);
        // 1e9 times 0.67 to the 7th is 60607117.9...; cut each time it stays below that.
        long odds = 1000000000;
        for (int n = 1; n <= 60; n++) {
            odds = odds * 67 / 100;
            due.is("recount(" + n + ", 33)", x.recount(n, 33), (int) odds);
        }
        due.is("no count, sure to change", x.recount(0, 100), 1000000000);
        due.is("no count, none changes", x.recount(0, 0), 1000000000);
        due.is("60 counts, sure to change", x.recount(60, 100), 0);
        due.is("60 counts, none changes", x.recount(60, 0), 1000000000);
        due.is("one count, nearly sure to change", x.recount(1, 99), 10000000);
        // 670000000, 448900000, 300763000, 201511210, 135012510(.7), 90458381(.7 of what was cut).
        due.is("cut once", x.recount(5, 33), 135012510);
        due.is("cut twice", x.recount(6, 33), 90458381);
        due.is("nothing is left", x.recount(10, 90), 0);
        due.is("1 is left", x.recount(9, 90), 1);
        due.is("n -1", x.recount(-1, 5), Due.OUTSIDE);
        due.is("n 61", x.recount(61, 5), Due.OUTSIDE);
        due.is("q -1", x.recount(5, -1), Due.OUTSIDE);
        due.is("q 101", x.recount(5, 101), Due.OUTSIDE);
        due.is("min", x.recount(Integer.MIN_VALUE, Integer.MIN_VALUE), Due.OUTSIDE);
        due.is("max", x.recount(Integer.MAX_VALUE, Integer.MAX_VALUE), Due.OUTSIDE);
    }

    private static void nothingChanges() {
        LevelVotes x = Due.made("h3 2;g5,4,3;i0 1 2;i3 5 1;p10222;p12000;p22111;");
        int[] before = new int[13];
        for (int what = 0; what < 13; what++) {
            before[what] = x.told(what);
        }
        x.rests(0, 0);
        x.pool(0);
        x.tips(0);
        x.fewest(0, 5, 0);
        x.carry();
        x.waltz(3);
        x.recount(3, 3);
        x.stood(0);
        x.look();
        x.judge();
        for (int what = 0; what < 13; what++) {
            due.is("told(" + what + ") behind all that", x.told(what), before[what]);
        }
        due.is("height behind all that", x.cell(0, 0), 2);
    }
}
