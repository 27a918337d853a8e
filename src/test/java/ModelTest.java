import java.util.Random;

/** All promises: runs of calls by chance (the same each time), held against the plain model. */
public final class ModelTest {
    private static final Due due = new Due();
    private static final int RUNS = 500;
    private static final int CALLS = 500;
    private static final int[] EDGES = {-2147483648, -1000000001, -100, -2, -1, 20, 21, 31, 32, 60, 61, 100, 101, 240, 255, 256, 2147483647};

    public static void main(String[] args) {
        for (int run = 0; run < RUNS; run++) {
            play(new Random(run), "run " + run + ": ");
        }
        for (int run = 0; run < 20000; run++) {
            read(new Random(run), "text " + run + ": ");
        }
        due.end();
    }

    private static void play(Random r, String name) {
        LevelVotes x = new LevelVotes();
        Model m = new Model();
        int left = CALLS;
        while (left > 0) {
            if (left == CALLS || left > 250 && r.nextInt(120) == 0) {
                String text = text(r);
                if (r.nextInt(6) == 0) {
                    text = spoil(r, text);
                }
                left -= text.length() + 2;
                tell(x, m, text, name);
            } else {
                left -= call(x, m, r, name);
            }
        }
    }

    private static void read(Random r, String name) {
        String text = text(r);
        for (int k = r.nextInt(4); k > 0; k--) {
            text = spoil(r, text);
        }
        LevelVotes x = new LevelVotes();
        Model m = new Model();
        tell(x, m, text, name);
        for (int what = 0; what <= 9; what++) {
            due.is(name + "told(" + what + ") of " + text, x.told(what), m.told(what));
        }
    }

    private static void tell(LevelVotes x, Model m, String text, String name) {
        for (int k = 0; k < text.length(); k++) {
            due.is(name + "feed", x.feed(text.charAt(k)), m.feed(text.charAt(k)));
        }
        due.is(name + "house() of " + text, x.house(), m.house());
        due.is(name + "fault() of " + text, x.fault(), m.fault());
    }

    private static String blanks(Random r) {
        return r.nextInt(8) == 0 ? " ".repeat(r.nextInt(3)) : "";
    }

    private static String text(Random r) {
        int w = 1 + r.nextInt(5), h = 1 + r.nextInt(4);
        StringBuilder s = new StringBuilder(blanks(r) + "h" + blanks(r) + w + " " + h + blanks(r) + ";");
        int heights = r.nextInt(5) == 0 ? 0 : 1 + r.nextInt(20);
        int range = 2 + r.nextInt(9);
        for (int k = 0; k < heights; k++) {
            s.append(k == 0 ? "g" : ",").append(blanks(r)).append(r.nextInt(Math.min(range, 10))).append(blanks(r));
        }
        s.append(heights > 0 ? ";" : "");
        int items = r.nextInt(6), persons = r.nextInt(8);
        int lean = r.nextInt(3);
        while (items + persons > 0) {
            if (r.nextInt(items + persons) < items) {
                items--;
                int row = r.nextInt(h), column = r.nextInt(w);
                int toRow = row + r.nextInt(h - row), toColumn = column + r.nextInt(w - column);
                s.append("i").append(row * w + column).append(' ').append(toRow * w + toColumn).append(' ');
                s.append(blanks(r)).append(r.nextInt(10)).append(";");
            } else {
                persons--;
                s.append("p");
                for (int i = 0; i < 5; i++) {
                    s.append(r.nextInt(3) == 0 ? 1 : lean == 0 ? r.nextInt(2) : r.nextInt(3));
                }
                s.append(";");
            }
        }
        return s.substring(0, Math.min(s.length(), 240));
    }

    private static String spoil(Random r, String text) {
        if (text.isEmpty()) {
            return text;
        }
        int k = r.nextInt(text.length());
        String signs = "hgip;;,, 0123456789x" + (char) 0 + (char) 255;
        String sign = "" + signs.charAt(r.nextInt(signs.length()));
        switch (r.nextInt(6)) {
            case 0: return text.substring(0, k);
            case 1: return text.substring(0, k) + text.substring(k + 1);
            case 2: return text.substring(0, k) + sign + text.substring(k + 1);
            case 3: return text.substring(0, k) + sign + text.substring(k);
            case 4: return text.substring(0, k) + text.substring(r.nextInt(k + 1));
            default: return text.substring(k) + text.substring(0, k);
        }
    }

    /** Mostly a number that there may be, now and then one far out. */
    private static int number(Random r, int below) {
        if (r.nextInt(25) == 0) {
            return EDGES[r.nextInt(EDGES.length)];
        }
        return r.nextInt(below + (r.nextInt(6) == 0 ? 1 : 0));
    }

    /** One call, or a few: how many. */
    private static int call(LevelVotes x, Model m, Random r, String name) {
        int cells = Math.max(1, m.told(0) * m.told(1));
        int items = Math.max(1, m.told(2)), persons = Math.max(1, m.told(3));
        int c = number(r, cells), d = number(r, cells), i = number(r, items), p = number(r, persons);
        int kind = r.nextInt(60);
        String call = name + "(" + c + ", " + d + ", " + i + ", " + p + ")";
        int two = number(r, 2), three = number(r, 3), n = number(r, 61), q = number(r, 101);
        switch (kind) {
            case 0: case 1: { int v = number(r, 13); due.is(call + " told " + v, x.told(v), m.told(v)); break; }
            case 2: case 3: due.is(call + " cell " + three, x.cell(c, three), m.cell(c, three)); break;
            case 4: case 5: { int v = number(r, 6); due.is(call + " item " + v, x.item(i, v), m.item(i, v)); break; }
            case 6: case 7: due.is(call + " votes", x.votes(p, i), m.votes(p, i)); break;
            case 8: case 9: case 10: case 11: case 12: case 13:
                due.is(call + " vote " + three, x.vote(p, i, three), m.vote(p, i, three)); break;
            case 14: case 15: due.is(call + " session", x.session(), m.session()); break;
            case 16: case 17: due.is(call + " drift " + n, x.drift(n), m.drift(n)); break;
            case 18: case 19: case 20: due.is(call + " undo", x.undo(), m.undo()); break;
            case 21: case 22: due.is(call + " rests " + two, x.rests(c, two), m.rests(c, two)); break;
            case 23: case 24: due.is(call + " pool", x.pool(c), m.pool(c)); break;
            case 25: case 26: due.is(call + " tips", x.tips(i), m.tips(i)); break;
            case 27: due.is(call + " fewest " + two, x.fewest(c, d, two), m.fewest(c, d, two)); break;
            case 28: { int to = m.rests(c, 0); due.is(call + " fewest to " + to, x.fewest(c, to, two), m.fewest(c, to, two)); break; }
            case 29: case 30: due.is(call + " carry", x.carry(), m.carry()); break;
            case 31: case 32: { int v = r.nextInt(9) == 0 ? r.nextInt() : r.nextInt(1 << cells); due.is(call + " waltz " + v, x.waltz(v), m.waltz(v)); break; }
            case 33: due.is(call + " recount " + n + ", " + q, x.recount(n, q), m.recount(n, q)); break;
            case 34: case 35: case 36: { int to = r.nextInt(3) == 0 ? d : m.rests(c, 0); due.is(call + " see " + to, x.see(c, to), m.see(c, to)); break; }
            case 37: due.is(call + " stood " + n, x.stood(n - 1), m.stood(n - 1)); break;
            case 38: { int v = number(r, 243); due.is(call + " stood " + v, x.stood(v), m.stood(v)); break; }
            case 39: due.is(call + " stood how many", x.stood(-1), m.stood(-1)); break;
            case 40: due.is(call + " look", x.look(), m.look()); break;
            case 41: case 42: case 43: { int v = r.nextInt(4) == 0 ? number(r, 10) : m.cell(c, 0); due.is(call + " write " + v, x.write(c, v), m.write(c, v)); break; }
            case 44: if (r.nextInt(3) == 0) due.is(call + " tear", x.tear(), m.tear()); break;
            case 45: case 46: due.is(call + " judge", x.judge(), m.judge()); break;
            case 47: { int v = r.nextInt(); due.is(call + " seed " + v, x.seed(v), m.seed(v)); break; }
            case 48: case 49: due.is(call + " keep " + two, x.keep(two), m.keep(two)); break;
            case 50: case 51: due.is(call + " goBack " + two, x.goBack(two), m.goBack(two)); break;
            default: for (int v = 5; v <= 12; v++) due.is(call + " told " + v, x.told(v), m.told(v));
        }
        return kind > 51 ? 8 : 1;
    }
}
