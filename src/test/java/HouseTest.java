/** Promises 5 to 8: told, cell, item, votes. */
public final class HouseTest {
    private static final Due due = new Due();

    public static void main(String[] args) {
        told();
        stands();
        heights();
        slopeEndsAtZero();
        oneColumnOneRow();
        lastItemWins();
        downhill();
        figuresBehindTheLastItem();
        pools();
        refusals();
        due.end();
    }

    private static void told() {
        LevelVotes x = Due.made("h3 2;g5,4,3;i0 1 2;i3 5 1;p10222;p12000;p22111;");
        int[] want = {3, 2, 2, 3, 0, 0, 20, Due.NONE, 0};
        for (int what = 0; what < want.length; what++) {
            due.is("told(" + what + ")", x.told(what), want[what]);
        }
        x.feed(32);
        x.feed(33);
        due.is("told(4)", x.told(4), 2);
        x.session();
        due.is("told(5)", x.told(5), 1);
        due.is("told(7)", x.told(7), 20);
        x.vote(2, 1, 1);
        x.vote(1, 1, 1);
        due.is("told(6) behind votes", x.told(6), 21);
        due.is("told(7) behind votes", x.told(7), 20);
        due.is("told(12)", x.told(12), 3);
        x.see(0, 0);
        x.see(0, 0);
        x.write(5, 0);
        due.is("told(10)", x.told(10), 2);
        due.is("told(11)", x.told(11), 1);
        due.is("told(-1)", x.told(-1), Due.OUTSIDE);
        due.is("told(13)", x.told(13), Due.OUTSIDE);
        due.is("told(max)", x.told(Integer.MAX_VALUE), Due.OUTSIDE);
    }

    private static void stands() {
        // Leads of the five items: -1, 0, 1, 2, 3.
        LevelVotes x = Due.made("h1 1;i0 0 1;i0 0 2;i0 0 3;i0 0 4;i0 0 5;p01211;p20111;p22221;");
        int[] want = {0, 0, 1, 2, 2};
        int[] yes = {0, 1, 2, 3, 7};
        int[] no = {1, 2, 0, 0, 0};
        for (int i = 0; i < 5; i++) {
            due.is("stands " + i, x.item(i, 2), want[i]);
            due.is("yes " + i, x.item(i, 3), yes[i]);
            due.is("no " + i, x.item(i, 4), no[i]);
        }
        due.is("told(6)", x.told(6), 122);
    }

    private static void heights() {
        LevelVotes x = Due.made("h4 2;g9;i1 7 5;p12222;p22222;");
        int[] close = {9, 5, 4, 4, 9, 5, 4, 4};
        for (int c = 0; c < 8; c++) {
            due.is("close " + c, x.cell(c, 0), close[c]);
            due.is("own " + c, x.cell(c, 1), 9);
            due.is("item of " + c, x.cell(c, 2), c % 4 == 0 ? Due.NONE : 0);
        }
        due.is("close is not level", x.item(0, 5), 0);
        x.vote(1, 0, 1);
        for (int c = 0; c < 8; c++) {
            due.is("firm " + c, x.cell(c, 0), c % 4 == 0 ? 9 : 5);
        }
        due.is("firm is level", x.item(0, 5), 1);
        x.vote(1, 0, 0);
        for (int c = 0; c < 8; c++) {
            due.is("fell " + c, x.cell(c, 0), 9);
            due.is("no item of " + c, x.cell(c, 2), Due.NONE);
        }
        due.is("level by the hill", x.item(0, 5), 1);
        x = Due.made("h2 1;g9;i0 1 0;p12222;");
        due.is("not below 0", x.cell(1, 0), 0);
        due.is("level at 0 though close", x.item(0, 5), 1);
        due.is("cell 0 by item 0", x.cell(0, 2), 0);
        x = Due.made("h1 3;g1,2,3;i0 2 7;p12222;");
        due.is("one column does not slope", x.item(0, 5), 1);
        x.vote(0, 0, 0);
        due.is("the hill slopes", x.item(0, 5), 0);
    }

    /** A close item's other columns are 1 less, 0 at least. */
    private static void slopeEndsAtZero() {
        for (int level = 0; level <= 9; level++) {
            LevelVotes x = Due.made("h3 2;g7;i1 5 " + level + ";p12222;");
            for (int c = 0; c < 6; c++) {
                int want = c % 3 == 0 ? 7 : c % 3 == 1 ? level : level == 0 ? 0 : level - 1;
                due.is("close at " + level + ", cell " + c, x.cell(c, 0), want);
            }
            due.is("close at " + level + " is level", x.item(0, 5), level == 0 ? 1 : 0);
        }
    }

    /** Where all cells have one column, or one row, an item still has just those from A to B. */
    private static void oneColumnOneRow() {
        LevelVotes x = Due.made("h1 4;g9;i1 2 5;i3 3 4;p11222;p11222;");
        due.is("cells 1, 2", x.item(0, 0), 6);
        due.is("cell 3", x.item(1, 0), 8);
        int[] want = {9, 5, 5, 4};
        for (int c = 0; c < 4; c++) {
            due.is("one column, cell " + c, x.cell(c, 0), want[c]);
        }
        due.is("B above A", Due.tell(x, "h1 4;i2 1 5;"), -14);
        due.is("at the B", x.fault(), 8);
        x = Due.made("h4 1;g9;i1 2 5;i3 3 4;p11222;p11222;");
        due.is("cells 1, 2 of a row", x.item(0, 0), 6);
        for (int c = 0; c < 4; c++) {
            due.is("one row, cell " + c, x.cell(c, 0), want[c]);
        }
        due.is("B left of A", Due.tell(x, "h4 1;i2 1 5;"), -14);
        due.is("at that B", x.fault(), 8);
    }

    private static void lastItemWins() {
        LevelVotes x = Due.made("h3 1;g1,2,3;i0 2 8;i1 2 6;i2 2 4;p11022;p11222;p22222;");
        due.is("cell 0", x.cell(0, 0), 8);
        due.is("cell 1", x.cell(1, 0), 6);
        due.is("cell 2 of item 1", x.cell(2, 0), 6);
        due.is("cell 2 by", x.cell(2, 2), 1);
        due.is("item 0 is not level", x.item(0, 5), 0);
        due.is("item 1 is level", x.item(1, 5), 1);
        x.vote(0, 2, 1);
        due.is("close one is the last", x.cell(2, 0), 4);
        due.is("close one by", x.cell(2, 2), 2);
        due.is("item 1 is no more level", x.item(1, 5), 0);
    }

    private static void downhill() {
        LevelVotes x = Due.made("h1 1;i0 0 1;i0 0 2;i0 0 3;p11000;p11122;p11102;p00122;p01022;p02022;p20222;");
        // Items 0 (3 yes, 3 no) falls, 1 (4 to 2) and 2 (3 to 3) too but for 1.
        due.is("stands", x.told(6), 20);
        due.is("downhill", x.told(8), 1 << 3 | 1 << 6);
        x.vote(6, 0, 1);
        due.is("stands then", x.told(6), 120);
        due.is("downhill then", x.told(8), 1 << 3 | 1 << 5);
        x.vote(0, 2, 2);
        due.is("stands at last", x.told(6), 121);
        due.is("downhill at last", x.told(8), 1 << 3 | 1 << 4 | 1 << 5);
        x = Due.made("h1 1;i0 0 1;p02222;p12222;p12222;");
        due.is("person 0", x.told(8), 1);
    }

    /** V has five figures though there are fewer items: those behind the last item count nowhere. */
    private static void figuresBehindTheLastItem() {
        String[] items = {"", "i0 0 3;", "i0 0 3;i0 0 3;", "i0 0 3;i0 0 3;i0 0 3;", "i0 0 3;i0 0 3;i0 0 3;i0 0 3;"};
        for (int n = 0; n < items.length; n++) {
            String neither = "22222".substring(0, n);
            String yes = neither + "11111".substring(n);
            String no = neither + "00000".substring(n);
            // By what is behind the last item: two for it, one against, so it would stand.
            LevelVotes x = Due.made("h2 1;g5,4;" + items[n] + "p" + yes + ";p" + yes + ";p" + no + ";");
            due.is("stand, items " + n, x.told(6), 0);
            due.is("downhill, items " + n, x.told(8), 0);
            due.is("as it is, items " + n, x.fewest(0, 1, 0), 0);
            due.is("as it stands, items " + n, x.fewest(0, 1, 1), 0);
            due.is("one vote, items " + n, x.fewest(0, 0, 0), n == 0 ? Due.NONE : 1);
            due.is("carry, items " + n, x.carry(), n == 0 ? 0 : 3);
            due.is("no such votes, items " + n, x.votes(0, n), Due.UNKNOWN);
            due.is("no such vote, items " + n, x.vote(0, n, 0), Due.UNKNOWN);
            due.is("no such item, items " + n, x.item(n, 3), Due.UNKNOWN);
            due.is("nobody tips it, items " + n, x.tips(n), Due.UNKNOWN);
            due.is("session, items " + n, x.session(), 0);
        }
    }

    private static void pools() {
        LevelVotes x = Due.made("h5 4;g5;");
        due.is("all rest where they lie", x.told(9), (1 << 20) - 1);
        x = Due.made("h3 1;g1,2,1;");
        due.is("two pools", x.told(9), 5);
    }

    private static void refusals() {
        LevelVotes x = Due.made("h2 2;i0 3 5;p10000;");
        for (int c : new int[] {-1, 4, 20, 99, Integer.MIN_VALUE, Integer.MAX_VALUE}) {
            due.is("cell " + c, x.cell(c, 0), Due.UNKNOWN);
            due.is("cell before what " + c, x.cell(c, 9), Due.UNKNOWN);
        }
        for (int what : new int[] {-1, 3, Integer.MIN_VALUE, Integer.MAX_VALUE}) {
            due.is("cell what " + what, x.cell(3, what), Due.OUTSIDE);
        }
        for (int i : new int[] {-1, 1, 5, Integer.MIN_VALUE, Integer.MAX_VALUE}) {
            due.is("item " + i, x.item(i, 0), Due.UNKNOWN);
            due.is("item before what " + i, x.item(i, 9), Due.UNKNOWN);
            due.is("votes item " + i, x.votes(0, i), Due.UNKNOWN);
            due.is("votes person " + i, x.votes(i, 0), Due.UNKNOWN);
        }
        for (int what : new int[] {-1, 6, Integer.MIN_VALUE, Integer.MAX_VALUE}) {
            due.is("item what " + what, x.item(0, what), Due.OUTSIDE);
        }
        due.is("votes", x.votes(0, 0), 1);
    }
}
