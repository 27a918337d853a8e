import java.util.ArrayDeque;
import java.util.ArrayList;
import java.util.Arrays;
import java.util.Deque;
import java.util.List;
import java.util.TreeMap;
import java.util.TreeSet;

/**
 * The document once more, written as plainly as the Java library lets it be and without a look at
 * how LevelVotes does it: votes as rows of figures, ways as texts, all else tried by brute force.
 */
final class Model {
    private static final int NONE = -1, UNKNOWN = -1000000001, OUTSIDE = -1000000002, NOT = -1000000003, FULL = -1000000004;

    private record Item(int a, int b, int level) { }

    private record Mark(int cell, int value) { }

    private record State(int[][] votes, int sessions, int last, long seed) { }

    private static final class Fault extends Exception {
        private static final long serialVersionUID = 1;
        final int number, where;

        Fault(int number, int where) {
            this.number = number;
            this.where = where;
        }
    }

    private String text = "";
    private int faultAt = NONE;
    private int w, h;
    private List<Integer> own = new ArrayList<>();
    private List<Item> items = new ArrayList<>();
    private int[][] votes = new int[0][];
    private int sessions;
    private int last = NONE;
    private long seed;
    private final List<Mark> seen = new ArrayList<>();
    private final List<Mark> book = new ArrayList<>();
    private final Deque<State> past = new ArrayDeque<>();
    private final State[] images = new State[2];

    // ---- the text

    int feed(int letter) {
        if (letter < 0 || letter > 255) return OUTSIDE;
        if (text.length() == 240) return FULL;
        text += (char) letter;
        return text.length();
    }

    private int pos;

    private char peek() {
        while (pos < text.length() && text.charAt(pos) == ' ') pos++;
        return pos < text.length() ? text.charAt(pos) : (char) 999;
    }

    private String figures() throws Fault {
        if (!Character.isDigit(peek()) || peek() > 127) throw new Fault(1, pos);
        int from = pos;
        while (pos < text.length() && "0123456789".indexOf(text.charAt(pos)) >= 0) pos++;
        return text.substring(from, pos);
    }

    private int number(int least, int most) throws Fault {
        String f = figures();
        int value = f.length() > 5 ? -1 : Integer.parseInt(f);
        if (value < least || value > most) throw new Fault(2, pos - f.length());
        return value;
    }

    private void sign(char c) throws Fault {
        if (peek() != c) throw new Fault(1, pos);
        pos++;
    }

    int house() {
        int newW = 0, newH = 0;
        List<Integer> newOwn = new ArrayList<>();
        List<Item> newItems = new ArrayList<>();
        List<int[]> newVotes = new ArrayList<>();
        pos = 0;
        try {
            while (peek() != 999) {
                char word = peek();
                if (newW == 0 && word != 'h' || "hgip".indexOf(word) < 0) throw new Fault(1, pos);
                if (word == 'h' && newW > 0 || word == 'g' && !newOwn.isEmpty()
                        || word == 'i' && newItems.size() == 5 || word == 'p' && newVotes.size() == 7) {
                    throw new Fault(3, pos);
                }
                pos++;
                if (word == 'h') {
                    int columns = number(1, 5);
                    newH = number(1, 4);
                    newW = columns;
                } else if (word == 'g') {
                    newOwn.add(number(0, 9));
                    while (peek() == ',' && newOwn.size() < 20) {
                        pos++;
                        newOwn.add(number(0, 9));
                    }
                } else if (word == 'i') {
                    int a = number(0, newW * newH - 1);
                    peek();
                    int where = pos;
                    int b = number(0, newW * newH - 1);
                    if (b / newW < a / newW || b % newW < a % newW) throw new Fault(4, where);
                    newItems.add(new Item(a, b, number(0, 9)));
                } else {
                    String v = figures();
                    if (!v.matches("[012]{5}")) throw new Fault(2, pos - v.length());
                    newVotes.add(v.chars().map(c -> c - '0').toArray());
                }
                sign(';');
            }
        } catch (Fault f) {
            text = "";
            faultAt = f.where;
            return -10 - f.number;
        }
        text = "";
        faultAt = NONE;
        w = newW;
        h = newH;
        own = newOwn.isEmpty() ? List.of(0) : newOwn;
        items = newItems;
        votes = newVotes.toArray(new int[0][]);
        sessions = 0;
        last = NONE;
        seen.clear();
        book.clear();
        past.clear();
        Arrays.fill(images, null);
        return items.size();
    }

    int fault() {
        return faultAt;
    }

    // ---- what is so

    private boolean noCell(int c) { return c < 0 || c >= w * h; }

    private boolean noItem(int i) { return i < 0 || i >= items.size(); }

    private boolean noPerson(int p) { return p < 0 || p >= votes.length; }

    private static char standOf(int[][] all, int i) {
        int yes = 0, no = 0;
        for (int[] row : all) {
            if (row[i] == 1) yes++;
            if (row[i] == 0) no++;
        }
        return yes <= no ? '0' : yes == no + 1 ? '1' : '2';
    }

    private String wayOf(int[][] all) {
        String way = "";
        for (int i = 0; i < items.size(); i++) way += standOf(all, i);
        return way;
    }

    private static int value(String way) {
        return way.isEmpty() ? 0 : Integer.parseInt(way);
    }

    private boolean covers(Item item, int c) {
        int r = c / w, k = c % w;
        return r >= item.a / w && r <= item.b / w && k >= item.a % w && k <= item.b % w;
    }

    private int itemAt(String way, int c) {
        for (int i = items.size() - 1; i >= 0; i--) {
            if (way.charAt(i) != '0' && covers(items.get(i), c)) return i;
        }
        return NONE;
    }

    private int height(String way, int c) {
        int i = itemAt(way, c);
        if (i == NONE) return own.get(c % own.size());
        Item item = items.get(i);
        boolean less = way.charAt(i) == '1' && c % w != item.a % w;
        return less ? Math.max(0, item.level - 1) : item.level;
    }

    private List<Integer> path(String way, int c) {
        List<Integer> path = new ArrayList<>(List.of(c));
        while (true) {
            int at = path.get(path.size() - 1), best = NONE;
            for (int n = 0; n < w * h; n++) {
                boolean near = Math.abs(n / w - at / w) + Math.abs(n % w - at % w) == 1;
                if (near && height(way, n) < height(way, at) && (best == NONE || height(way, n) < height(way, best))) {
                    best = n;
                }
            }
            if (best == NONE) return path;
            path.add(best);
        }
    }

    private int rest(String way, int c) {
        List<Integer> path = path(way, c);
        return path.get(path.size() - 1);
    }

    private int camp(int i, int how) {
        int set = 0;
        for (int p = 0; p < votes.length; p++) if (votes[p][i] == how) set += 1 << p;
        return set;
    }

    int told(int what) {
        String way = wayOf(votes);
        return switch (what) {
            case 0 -> w;
            case 1 -> h;
            case 2 -> items.size();
            case 3 -> votes.length;
            case 4 -> text.length();
            case 5 -> sessions;
            case 6 -> value(way);
            case 7 -> last;
            case 8 -> downhill(way);
            case 9 -> {
                int set = 0;
                for (int c = 0; c < w * h; c++) set |= 1 << rest(way, c);
                yield set;
            }
            case 10 -> seen.size();
            case 11 -> book.size();
            case 12 -> past.size();
            default -> OUTSIDE;
        };
    }

    private int downhill(String way) {
        int set = 0;
        for (int p = 0; p < votes.length; p++) {
            int yes = 0, no = 0;
            for (int i = 0; i < items.size(); i++) {
                if (way.charAt(i) == '0') continue;
                if (votes[p][i] == 1) yes++;
                if (votes[p][i] == 0) no++;
            }
            if (no > yes) set |= 1 << p;
        }
        return set;
    }

    int cell(int c, int what) {
        if (noCell(c)) return UNKNOWN;
        String way = wayOf(votes);
        return what == 0 ? height(way, c) : what == 1 ? own.get(c % own.size()) : what == 2 ? itemAt(way, c) : OUTSIDE;
    }

    int item(int i, int what) {
        if (noItem(i)) return UNKNOWN;
        if (what < 0 || what > 5) return OUTSIDE;
        String way = wayOf(votes);
        int set = 0;
        TreeSet<Integer> heights = new TreeSet<>();
        for (int c = 0; c < w * h; c++) {
            if (covers(items.get(i), c)) {
                set |= 1 << c;
                heights.add(height(way, c));
            }
        }
        int[] all = {set, items.get(i).level, way.charAt(i) - '0', camp(i, 1), camp(i, 0), heights.size() == 1 ? 1 : 0};
        return all[what];
    }

    int votes(int p, int i) {
        return noPerson(p) || noItem(i) ? UNKNOWN : votes[p][i];
    }

    // ---- what is done

    private static int[][] copy(int[][] all) {
        int[][] other = new int[all.length][];
        for (int p = 0; p < all.length; p++) other[p] = all[p].clone();
        return other;
    }

    private State state() {
        return new State(copy(votes), sessions, last, seed);
    }

    private void become(State s) {
        votes = copy(s.votes);
        sessions = s.sessions;
        last = s.last;
    }

    private void remember() {
        past.addLast(state());
        if (past.size() > 20) past.removeFirst();
    }

    int vote(int p, int i, int how) {
        if (noPerson(p) || noItem(i)) return UNKNOWN;
        if (how < 0 || how > 2) return OUTSIDE;
        remember();
        votes[p][i] = how;
        return standOf(votes, i) - '0';
    }

    int session() {
        if (w == 0) return NOT;
        if (sessions > 9000) return FULL;
        remember();
        sessions++;
        return last = value(wayOf(votes));
    }

    private int draw(int n) {
        seed = (seed * 1103515245L + 12345L) % (1L << 31);
        return (int) (seed / 65536 % n);
    }

    int drift(int n) {
        if (n < 1 || n > 60) return OUTSIDE;
        if (w == 0) return NOT;
        if (sessions > 9000) return FULL;
        remember();
        for (int k = 0; k < n; k++) {
            if (votes.length > 0 && !items.isEmpty()) {
                int p = draw(votes.length);
                int i = draw(items.size());
                votes[p][i] = draw(3);
                sessions++;
                last = value(wayOf(votes));
            }
        }
        return value(wayOf(votes));
    }

    int undo() {
        if (past.isEmpty()) return NOT;
        become(past.removeLast());
        return past.size();
    }

    // ---- tried

    int rests(int c, int what) {
        if (noCell(c)) return UNKNOWN;
        if (what < 0 || what > 1) return OUTSIDE;
        String way = wayOf(votes);
        return what == 0 ? rest(way, c) : path(way, c).size() - 1;
    }

    int pool(int c) {
        if (noCell(c)) return UNKNOWN;
        String way = wayOf(votes);
        int n = 0;
        for (int from = 0; from < w * h; from++) if (rest(way, from) == c) n++;
        return n;
    }

    int tips(int i) {
        if (noItem(i)) return UNKNOWN;
        int set = 0;
        for (int p = 0; p < votes.length; p++) {
            for (int how = 0; how < 3; how++) {
                int[][] other = copy(votes);
                other[p][i] = how;
                if (standOf(other, i) != standOf(votes, i)) set |= 1 << p;
            }
        }
        return set;
    }

    /** The fewest changes on one item for each way to stand, over all that all persons can vote. */
    private int[] prices(int i) {
        int[] best = {99, 99, 99};
        int all = (int) Math.round(Math.pow(3, votes.length));
        for (int k = 0; k < all; k++) {
            int lead = 0, changes = 0;
            for (int p = 0, left = k; p < votes.length; p++, left /= 3) {
                int how = left % 3;
                lead += how == 1 ? 1 : how == 0 ? -1 : 0;
                if (how != votes[p][i]) changes++;
            }
            int stand = Math.max(0, Math.min(2, lead));
            best[stand] = Math.min(best[stand], changes);
        }
        return best;
    }

    int fewest(int c, int to, int what) {
        if (noCell(c) || noCell(to)) return UNKNOWN;
        if (what < 0 || what > 1) return OUTSIDE;
        List<int[]> prices = new ArrayList<>();
        for (int i = 0; i < items.size(); i++) prices.add(prices(i));
        TreeMap<Integer, TreeSet<Integer>> found = new TreeMap<>();
        for (String way : ways()) {
            int sum = 0;
            for (int i = 0; i < items.size(); i++) sum += prices.get(i)[way.charAt(i) - '0'];
            if (sum < 99 && rest(way, c) == to) found.computeIfAbsent(sum, k -> new TreeSet<>()).add(value(way));
        }
        if (found.isEmpty()) return NONE;
        return what == 0 ? found.firstKey() : found.firstEntry().getValue().first();
    }

    int carry() {
        for (int size = 0; size <= votes.length; size++) {
            for (int who = 0; who < 1 << votes.length; who++) {
                if (Integer.bitCount(who) != size) continue;
                int[][] other = copy(votes);
                for (int p = 0; p < votes.length; p++) if ((who >> p & 1) == 1) Arrays.fill(other[p], 1);
                if (wayOf(other).matches("2*")) return who;
            }
        }
        return NONE;
    }

    int waltz(int cells) {
        TreeSet<Integer> heights = new TreeSet<>();
        for (int c = 0; c < 32; c++) {
            if ((cells >>> c & 1) == 0) continue;
            if (noCell(c)) return UNKNOWN;
            heights.add(height(wayOf(votes), c));
        }
        return heights.isEmpty() ? 0 : heights.last() - heights.first();
    }

    int recount(int n, int q) {
        if (n < 0 || n > 60 || q < 0 || q > 100) return OUTSIDE;
        long odds = 1000000000;
        while (n-- > 0) odds = odds * (100 - q) / 100;
        return (int) odds;
    }

    // ---- what is seen

    private List<String> ways() {
        List<String> all = List.of("");
        for (int i = 0; i < items.size(); i++) {
            List<String> longer = new ArrayList<>();
            for (String way : all) for (char c = '0'; c < '3'; c++) longer.add(way + c);
            all = longer;
        }
        return all;
    }

    private List<String> fitting() {
        List<String> all = new ArrayList<>(ways());
        all.removeIf(way -> !seen.stream().allMatch(mark -> rest(way, mark.cell) == mark.value));
        return all;
    }

    int see(int c, int to) {
        if (noCell(c) || noCell(to)) return UNKNOWN;
        if (seen.size() == 6) return FULL;
        seen.add(new Mark(c, to));
        return seen.size();
    }

    int stood(int i) {
        List<String> all = fitting();
        return i == NONE ? all.size() : i >= 0 && i < all.size() ? value(all.get(i)) : NONE;
    }

    int look() {
        List<String> all = fitting();
        int best = NONE, least = all.size();
        for (int c = 0; c < w * h; c++) {
            int[] parts = new int[20];
            for (String way : all) parts[rest(way, c)]++;
            int most = Arrays.stream(parts).max().getAsInt();
            if (most < least) {
                least = most;
                best = c;
            }
        }
        return best;
    }

    int write(int c, int height) {
        if (noCell(c)) return UNKNOWN;
        if (height < 0 || height > 9) return OUTSIDE;
        if (book.size() == 15) return FULL;
        book.add(new Mark(c, height));
        return book.size();
    }

    int tear() {
        int both = seen.size() + book.size();
        seen.clear();
        book.clear();
        return both;
    }

    int judge() {
        for (Mark mark : book) {
            if (height(wayOf(votes), mark.cell) != mark.value) return book.indexOf(mark);
        }
        return NONE;
    }

    // ---- draws, images

    int seed(int v) {
        if (v < 0) return OUTSIDE;
        int was = (int) seed;
        seed = v;
        return was;
    }

    int keep(int i) {
        if (i != 0 && i != 1) return UNKNOWN;
        images[i] = state();
        past.clear();
        return 1;
    }

    int goBack(int i) {
        if (i != 0 && i != 1) return UNKNOWN;
        if (images[i] == null) return NOT;
        become(images[i]);
        seed = images[i].seed;
        past.clear();
        return 1;
    }
}
