import java.util.Arrays;

/**
 * A hill republic where nothing is level until it has been voted so.
 *
 * All rows are made with the object and used again, so that no call makes anything new.
 */
public final class LevelVotes {
    public static final int NONE = -1, UNKNOWN = -1000000001, OUTSIDE = -1000000002, NOT = -1000000003, FULL = -1000000004;

    private static final int MOST_LETTERS = 240;
    private static final int MOST_COLUMNS = 5;
    private static final int MOST_ROWS = 4;
    private static final int MOST_CELLS = 20;
    private static final int MOST_ITEMS = 5;
    private static final int MOST_PERSONS = 7;
    private static final int HIGHEST = 9;
    private static final int MOST_SEEN = 6;
    private static final int MOST_ENTRIES = 15;
    private static final int MOST_UNDONE = 20;
    private static final int MOST_IMAGES = 2;
    private static final int MOST_SESSIONS = 9000;
    private static final int MOST_TIMES = 60;
    private static final int BILLION = 1000000000;
    /** What is left over by 2 to the 31. */
    private static final long SEED_BITS = 0x7fffffffL;

    private static final int NO = 0, YES = 1, ABSTAINS = 2;
    private static final int FELL = 0, CLOSE = 1, FIRM = 2;
    private static final int STANDS = 3, HOWS = 3;
    /** More votes than there are: no way to get there. */
    private static final int TOO_DEAR = 1000;

    private static final int NO_FLAW = 0, MISPLACED = 1, OUT_OF_BOUNDS = 2, REPEATED = 3, BACKWARDS = 4;

    private final Text text = new Text();
    private House plan = new House();
    private House draft = new House();
    private int faultAt = NONE;
    private final Ballot now = new Ballot();
    private final History history = new History();
    private final Image[] images = new Image[MOST_IMAGES];
    private final Draws draws = new Draws();
    private final Notebook notebook = new Notebook();
    private final Way way = new Way();
    private final Hill hill = new Hill();
    /** What it costs to make an item stand in each of its three ways. */
    private final int[] prices = new int[MOST_ITEMS * STANDS];
    /** For each cell, by how many ways its marble rests in each cell. */
    private final int[] alike = new int[MOST_CELLS * MOST_CELLS];

    public LevelVotes() {
        for (int i = 0; i < images.length; i++) {
            images[i] = new Image();
        }
    }

    // ---- the house

    public int feed(int letter) {
        if (letter < 0 || letter > 255) {
            return OUTSIDE;
        }
        if (text.isFull()) {
            return FULL;
        }
        text.add(letter);
        return text.size;
    }

    public int house() {
        int flaw = text.readInto(draft);
        faultAt = text.flawAt;
        if (flaw != NO_FLAW) {
            return -10 - flaw;
        }
        House spare = plan;
        plan = draft;
        draft = spare;
        moveIn();
        return plan.items;
    }

    public int fault() {
        return faultAt;
    }

    public int told(int what) {
        switch (what) {
            case 0: return plan.columns;
            case 1: return plan.rows;
            case 2: return plan.items;
            case 3: return plan.persons;
            case 4: return text.size;
            case 5: return now.sessions;
            case 6: return standNow();
            case 7: return now.last;
            case 8: return downhill();
            case 9: return pools();
            case 10: return notebook.seen;
            case 11: return notebook.entries;
            case 12: return history.count;
            default: return OUTSIDE;
        }
    }

    public int cell(int c, int what) {
        if (!plan.hasCell(c)) {
            return UNKNOWN;
        }
        if (what < 0 || what > 2) {
            return OUTSIDE;
        }
        if (what == 1) {
            return plan.ownHeight(c);
        }
        shapeNow();
        return what == 0 ? hill.heightOf(c) : hill.itemOf(c);
    }

    public int item(int i, int what) {
        if (!plan.hasItem(i)) {
            return UNKNOWN;
        }
        switch (what) {
            case 0: return plan.cellsOf(i);
            case 1: return plan.levelOf(i);
            case 2: return now.standOf(i);
            case 3: return now.yesOf(i);
            case 4: return now.noOf(i);
            case 5: return isLevel(i) ? 1 : 0;
            default: return OUTSIDE;
        }
    }

    public int votes(int p, int i) {
        if (!plan.hasPerson(p) || !plan.hasItem(i)) {
            return UNKNOWN;
        }
        return now.howOf(p, i);
    }

    // ---- what is done

    public int vote(int p, int i, int how) {
        if (!plan.hasPerson(p) || !plan.hasItem(i)) {
            return UNKNOWN;
        }
        if (how < NO || how > ABSTAINS) {
            return OUTSIDE;
        }
        history.remember(now);
        now.put(p, i, how);
        return now.standOf(i);
    }

    public int session() {
        if (!plan.isThere()) {
            return NOT;
        }
        if (now.sessions > MOST_SESSIONS) {
            return FULL;
        }
        history.remember(now);
        return holdSession();
    }

    public int drift(int n) {
        if (n < 1 || n > MOST_TIMES) {
            return OUTSIDE;
        }
        if (!plan.isThere()) {
            return NOT;
        }
        if (now.sessions > MOST_SESSIONS) {
            return FULL;
        }
        history.remember(now);
        // Without persons or items nothing is done, the sessions neither; it was not refused, though.
        for (int k = 0; k < n && plan.hasVotes(); k++) {
            voteByDraw();
            holdSession();
        }
        return standNow();
    }

    public int undo() {
        if (history.count <= 0) {
            return NOT;
        }
        history.takeBack(now);
        return history.count;
    }

    // ---- tried

    public int rests(int c, int what) {
        if (!plan.hasCell(c)) {
            return UNKNOWN;
        }
        if (what < 0 || what > 1) {
            return OUTSIDE;
        }
        shapeNow();
        return what == 0 ? hill.restFrom(c) : hill.rollsFrom(c);
    }

    public int pool(int c) {
        if (!plan.hasCell(c)) {
            return UNKNOWN;
        }
        shapeNow();
        int marbles = 0;
        for (int from = 0; from < plan.cells; from++) {
            if (hill.restFrom(from) == c) {
                marbles++;
            }
        }
        return marbles;
    }

    public int tips(int i) {
        if (!plan.hasItem(i)) {
            return UNKNOWN;
        }
        int who = 0;
        for (int p = 0; p < plan.persons; p++) {
            if (canTip(p, i)) {
                who |= 1 << p;
            }
        }
        return who;
    }

    public int fewest(int c, int to, int what) {
        if (!plan.hasCell(c) || !plan.hasCell(to)) {
            return UNKNOWN;
        }
        if (what < 0 || what > 1) {
            return OUTSIDE;
        }
        fillPrices();
        int least = TOO_DEAR;
        int figures = NONE;
        int ways = way.countFor(plan.items);
        for (int k = 0; k < ways; k++) {
            way.become(k, plan.items);
            int price = priceOfWay();
            if (price < least && restsByWay(c, to)) {
                least = price;
                figures = way.figures();
            }
        }
        if (least >= TOO_DEAR) {
            return NONE;
        }
        return what == 0 ? least : figures;
    }

    public int carry() {
        int best = NONE;
        int fewestYet = MOST_PERSONS + 1;
        for (int who = 0; who < 1 << plan.persons; who++) {
            int size = Integer.bitCount(who);
            if (size < fewestYet && carriesAll(who)) {
                fewestYet = size;
                best = who;
            }
        }
        return best;
    }

    public int waltz(int cells) {
        if ((cells & ~plan.allCells()) != 0) {
            return UNKNOWN;
        }
        shapeNow();
        return spread(cells);
    }

    public int recount(int n, int q) {
        if (n < 0 || n > MOST_TIMES || q < 0 || q > 100) {
            return OUTSIDE;
        }
        long odds = BILLION;
        for (int k = 0; k < n; k++) {
            odds = odds * (100 - q) / 100;
        }
        return (int) odds;
    }

    // ---- what is seen

    public int see(int c, int to) {
        if (!plan.hasCell(c) || !plan.hasCell(to)) {
            return UNKNOWN;
        }
        if (notebook.seen >= MOST_SEEN) {
            return FULL;
        }
        notebook.addSeen(c, to);
        return notebook.seen;
    }

    public int stood(int i) {
        if (i < NONE) {
            return NONE;
        }
        int fitting = 0;
        int ways = way.countFor(plan.items);
        for (int k = 0; k < ways; k++) {
            way.become(k, plan.items);
            if (fitsSeen()) {
                if (fitting == i) {
                    return way.figures();
                }
                fitting++;
            }
        }
        return i == NONE ? fitting : NONE;
    }

    public int look() {
        int fitting = countAlike();
        int best = NONE;
        int leastPart = fitting;
        for (int c = 0; c < plan.cells; c++) {
            int part = greatestPart(c);
            if (part < leastPart) {
                leastPart = part;
                best = c;
            }
        }
        return best;
    }

    public int write(int c, int height) {
        if (!plan.hasCell(c)) {
            return UNKNOWN;
        }
        if (height < 0 || height > HIGHEST) {
            return OUTSIDE;
        }
        if (notebook.entries >= MOST_ENTRIES) {
            return FULL;
        }
        notebook.addEntry(c, height);
        return notebook.entries;
    }

    public int tear() {
        int both = notebook.seen + notebook.entries;
        notebook.clear();
        return both;
    }

    public int judge() {
        shapeNow();
        for (int e = 0; e < notebook.entries; e++) {
            if (hill.heightOf(notebook.entryCell(e)) != notebook.entryHeight(e)) {
                return e;
            }
        }
        return NONE;
    }

    // ---- draws, images

    public int seed(int v) {
        if (v < 0) {
            return OUTSIDE;
        }
        int was = draws.state;
        draws.state = v;
        return was;
    }

    public int keep(int i) {
        Image image = imageAt(i);
        if (image == null) {
            return UNKNOWN;
        }
        image.ballot.copy(now);
        image.seedThen = draws.state;
        image.isKept = true;
        history.clear();
        return 1;
    }

    public int goBack(int i) {
        Image image = imageAt(i);
        if (image == null) {
            return UNKNOWN;
        }
        if (!image.isKept) {
            return NOT;
        }
        now.copy(image.ballot);
        draws.state = image.seedThen;
        history.clear();
        return 1;
    }

    // ---- what the calls share

    private void moveIn() {
        now.copy(plan.toldVotes);
        history.clear();
        notebook.clear();
        for (int i = 0; i < images.length; i++) {
            Image image = imageAt(i);
            if (image != null) {
                image.isKept = false;
            }
        }
    }

    private Image imageAt(int i) {
        return i >= 0 && i < images.length ? images[i] : null;
    }

    private int standNow() {
        way.follow(now, plan.items);
        return way.figures();
    }

    private void shapeNow() {
        way.follow(now, plan.items);
        hill.shape(plan, way);
    }

    private int holdSession() {
        int stand = standNow();
        now.sessions++;
        now.last = stand;
        return stand;
    }

    private void voteByDraw() {
        int p = draws.next(plan.persons);
        int i = draws.next(plan.items);
        int how = draws.next(HOWS);
        now.put(p, i, how);
    }

    private int downhill() {
        int who = 0;
        for (int p = 0; p < plan.persons; p++) {
            if (lostMore(p)) {
                who |= 1 << p;
            }
        }
        return who;
    }

    private boolean lostMore(int p) {
        int against = 0;
        for (int i = 0; i < plan.items; i++) {
            if (now.standOf(i) != FELL) {
                against -= weightOf(now.howOf(p, i));
            }
        }
        return against > 0;
    }

    private int pools() {
        shapeNow();
        int where = 0;
        for (int c = 0; c < plan.cells; c++) {
            where |= 1 << hill.restFrom(c);
        }
        return where;
    }

    private boolean isLevel(int i) {
        shapeNow();
        return spread(plan.cellsOf(i)) == 0;
    }

    /** By how much the highest is above the lowest of a set, on the hill as last shaped. */
    private int spread(int set) {
        int lowest = HIGHEST;
        int highest = 0;
        for (int c = 0; c < plan.cells; c++) {
            if ((set >> c & 1) != 0) {
                lowest = Math.min(lowest, hill.heightOf(c));
                highest = Math.max(highest, hill.heightOf(c));
            }
        }
        return Math.max(0, highest - lowest);
    }

    private boolean canTip(int p, int i) {
        int stand = now.standOf(i);
        int others = now.leadOf(i) - weightOf(now.howOf(p, i));
        return standBy(others - 1) != stand || standBy(others) != stand || standBy(others + 1) != stand;
    }

    private static int weightOf(int how) {
        return how == YES ? 1 : how == NO ? -1 : 0;
    }

    private static int standBy(int lead) {
        return lead <= 0 ? FELL : lead == 1 ? CLOSE : FIRM;
    }

    private void fillPrices() {
        for (int i = 0; i < MOST_ITEMS; i++) {
            for (int stand = 0; stand < STANDS; stand++) {
                prices[i * STANDS + stand] = priceOf(i, stand);
            }
        }
    }

    /** The fewest votes on one item that must be others so that it stands as told. */
    private int priceOf(int i, int stand) {
        int least = TOO_DEAR;
        for (int yes = 0; yes <= plan.persons; yes++) {
            for (int no = 0; no <= plan.persons - yes; no++) {
                if (standBy(yes - no) == stand) {
                    least = Math.min(least, changesTo(i, yes, no));
                }
            }
        }
        return least;
    }

    /** Each vote that changes joins one of the three camps, so the camps' gains count the changes. */
    private int changesTo(int i, int yes, int no) {
        int yesNow = Integer.bitCount(now.yesOf(i));
        int noNow = Integer.bitCount(now.noOf(i));
        int abstainGain = yesNow + noNow - yes - no;
        return Math.max(0, yes - yesNow) + Math.max(0, no - noNow) + Math.max(0, abstainGain);
    }

    private int priceOfWay() {
        int sum = 0;
        for (int i = 0; i < plan.items; i++) {
            int k = i * STANDS + way.standOf(i);
            sum += k >= 0 && k < prices.length ? prices[k] : TOO_DEAR;
        }
        return sum;
    }

    private boolean restsByWay(int c, int to) {
        hill.shape(plan, way);
        return hill.restFrom(c) == to;
    }

    private boolean carriesAll(int who) {
        for (int i = 0; i < plan.items; i++) {
            int yes = Integer.bitCount(now.yesOf(i) | who);
            int no = Integer.bitCount(now.noOf(i) & ~who);
            if (standBy(yes - no) != FIRM) {
                return false;
            }
        }
        return true;
    }

    /** Whether all that is seen is so by the way; it leaves the hill shaped by it. */
    private boolean fitsSeen() {
        hill.shape(plan, way);
        for (int s = 0; s < notebook.seen; s++) {
            if (hill.restFrom(notebook.seenFrom(s)) != notebook.seenTo(s)) {
                return false;
            }
        }
        return true;
    }

    private int countAlike() {
        Arrays.fill(alike, 0);
        int fitting = 0;
        int ways = way.countFor(plan.items);
        for (int k = 0; k < ways; k++) {
            way.become(k, plan.items);
            if (fitsSeen()) {
                fitting++;
                countRests();
            }
        }
        return fitting;
    }

    private void countRests() {
        for (int c = 0; c < plan.cells; c++) {
            int k = c * MOST_CELLS + hill.restFrom(c);
            if (k >= 0 && k < alike.length) {
                alike[k]++;
            }
        }
    }

    private int greatestPart(int c) {
        int greatest = 0;
        for (int to = 0; to < plan.cells; to++) {
            int k = c * MOST_CELLS + to;
            if (k >= 0 && k < alike.length) {
                greatest = Math.max(greatest, alike[k]);
            }
        }
        return greatest;
    }

    /** What a text tells: cells, items and persons, with the votes that they begin with. */
    private static final class House {
        int columns;
        int rows;
        int cells;
        int items;
        int persons;
        int heightsTold;
        final int[] heights = new int[MOST_CELLS];
        final int[] sets = new int[MOST_ITEMS];
        final int[] levels = new int[MOST_ITEMS];
        final int[] firstColumns = new int[MOST_ITEMS];
        final Ballot toldVotes = new Ballot();

        void clear() {
            columns = 0;
            rows = 0;
            cells = 0;
            items = 0;
            persons = 0;
            heightsTold = 0;
            toldVotes.clear();
        }

        void setSize(int columnsTold, int rowsTold) {
            columns = columnsTold;
            rows = rowsTold;
            cells = columnsTold * rowsTold;
        }

        void addHeight(int height) {
            if (heightsTold >= 0 && heightsTold < heights.length) {
                heights[heightsTold] = height;
                heightsTold++;
            }
        }

        void addItem(int a, int b, int level) {
            if (items < 0 || items >= MOST_ITEMS) {
                return;
            }
            int set = 0;
            for (int c = 0; c < cells; c++) {
                if (!isBehind(a, c) && !isBehind(c, b)) {
                    set |= 1 << c;
                }
            }
            sets[items] = set;
            levels[items] = level;
            firstColumns[items] = columnOf(a);
            items++;
        }

        boolean isThere() {
            return columns > 0;
        }

        boolean hasVotes() {
            return persons > 0 && items > 0;
        }

        boolean hasCell(int c) {
            return c >= 0 && c < cells;
        }

        boolean hasItem(int i) {
            return i >= 0 && i < items;
        }

        boolean hasPerson(int p) {
            return p >= 0 && p < persons;
        }

        /** Whether cell b is above or left of cell a. */
        boolean isBehind(int a, int b) {
            return rowOf(b) < rowOf(a) || columnOf(b) < columnOf(a);
        }

        int rowOf(int c) {
            return columns > 0 ? c / columns : 0;
        }

        int columnOf(int c) {
            return columns > 0 ? c % columns : 0;
        }

        int allCells() {
            return (1 << cells) - 1;
        }

        int ownHeight(int c) {
            int k = heightsTold > 0 ? c % heightsTold : NONE;
            return k >= 0 && k < heights.length ? heights[k] : 0;
        }

        int cellsOf(int i) {
            return i >= 0 && i < sets.length ? sets[i] : 0;
        }

        int levelOf(int i) {
            return i >= 0 && i < levels.length ? levels[i] : 0;
        }

        int firstColumnOf(int i) {
            return i >= 0 && i < firstColumns.length ? firstColumns[i] : 0;
        }
    }

    /** The letters as they come, and how a house is read from them. */
    private static final class Text {
        private static final int END = -1;
        private static final int BLANK = 32;
        private static final int MOST_FIGURES = 5;

        final int[] letters = new int[MOST_LETTERS];
        int size;
        int flawAt = NONE;
        private int flaw;
        private int at;
        private int numberAt;

        boolean isFull() {
            return size >= letters.length;
        }

        void add(int letter) {
            if (size >= 0 && size < letters.length) {
                letters[size] = letter;
                size++;
            }
        }

        /** Answers the number of the first fault; the text is empty then in any case. */
        int readInto(House into) {
            into.clear();
            flaw = NO_FLAW;
            flawAt = NONE;
            at = 0;
            skipBlanks();
            for (int clauses = 0; clauses < MOST_LETTERS && at < size && flaw == NO_FLAW; clauses++) {
                readClause(into);
                skipBlanks();
            }
            size = 0;
            return flaw;
        }

        private void readClause(House into) {
            int word = letterAt(at);
            int wrong = flawOfWord(word, into);
            if (wrong != NO_FLAW) {
                fail(wrong, at);
                return;
            }
            at++;
            if (word == 'h') {
                readSize(into);
            } else if (word == 'g') {
                readHeights(into);
            } else if (word == 'i') {
                readItem(into);
            } else {
                readPerson(into);
            }
            readClose();
        }

        private static int flawOfWord(int word, House into) {
            if (!into.isThere()) {
                return word == 'h' ? NO_FLAW : MISPLACED;
            }
            switch (word) {
                case 'h': return REPEATED;
                case 'g': return into.heightsTold > 0 ? REPEATED : NO_FLAW;
                case 'i': return into.items >= MOST_ITEMS ? REPEATED : NO_FLAW;
                case 'p': return into.persons >= MOST_PERSONS ? REPEATED : NO_FLAW;
                default: return MISPLACED;
            }
        }

        private void readSize(House into) {
            int columns = readNumber(1, MOST_COLUMNS);
            int rows = readNumber(1, MOST_ROWS);
            if (flaw == NO_FLAW) {
                into.setSize(columns, rows);
            }
        }

        private void readHeights(House into) {
            for (int k = 1; k <= MOST_CELLS && flaw == NO_FLAW; k++) {
                int height = readNumber(0, HIGHEST);
                skipBlanks();
                if (flaw == NO_FLAW) {
                    into.addHeight(height);
                }
                // The last comma is left for readClose, which refuses it: no 21st height.
                if (letterAt(at) != ',' || k == MOST_CELLS) {
                    return;
                }
                at++;
            }
        }

        private void readItem(House into) {
            int a = readNumber(0, into.cells - 1);
            int b = readNumber(0, into.cells - 1);
            if (flaw == NO_FLAW && into.isBehind(a, b)) {
                fail(BACKWARDS, numberAt);
            }
            int level = readNumber(0, HIGHEST);
            if (flaw == NO_FLAW) {
                into.addItem(a, b, level);
            }
        }

        private void readPerson(House into) {
            skipBlanks();
            int figures = readFigures();
            if (flaw != NO_FLAW) {
                return;
            }
            boolean isVote = figures == MOST_ITEMS;
            for (int i = 0; i < MOST_ITEMS && isVote; i++) {
                int how = figureAt(numberAt + i);
                isVote = how >= NO && how <= ABSTAINS;
                into.toldVotes.put(into.persons, i, how);
            }
            if (isVote) {
                into.persons++;
            } else {
                fail(OUT_OF_BOUNDS, numberAt);
            }
        }

        private void readClose() {
            skipBlanks();
            if (letterAt(at) == ';') {
                at++;
            } else {
                fail(MISPLACED, at);
            }
        }

        private int readNumber(int least, int most) {
            skipBlanks();
            int figures = readFigures();
            if (flaw != NO_FLAW) {
                return least;
            }
            int number = 0;
            for (int k = 0; k < figures && k < MOST_FIGURES; k++) {
                number = number * 10 + figureAt(numberAt + k);
            }
            if (figures > MOST_FIGURES || number < least || number > most) {
                fail(OUT_OF_BOUNDS, numberAt);
            }
            return number;
        }

        /** Goes behind the figures that stand next, from numberAt on: how many they are. */
        private int readFigures() {
            numberAt = at;
            for (int k = 0; k < MOST_LETTERS && isFigure(letterAt(at)); k++) {
                at++;
            }
            if (at == numberAt) {
                fail(MISPLACED, at);
            }
            return at - numberAt;
        }

        private void skipBlanks() {
            for (int k = 0; k < MOST_LETTERS && letterAt(at) == BLANK; k++) {
                at++;
            }
        }

        private int letterAt(int k) {
            return k >= 0 && k < size && k < letters.length ? letters[k] : END;
        }

        private int figureAt(int k) {
            int letter = letterAt(k);
            return isFigure(letter) ? letter - '0' : NONE;
        }

        private static boolean isFigure(int letter) {
            return letter >= '0' && letter <= '9';
        }

        /** The first fault stays: what is read behind it no longer counts. */
        private void fail(int number, int where) {
            if (flaw == NO_FLAW) {
                flaw = number;
                flawAt = where;
            }
        }
    }

    /** Who votes yes and no on each item, how many sessions there were, how items stood in the last. */
    private static final class Ballot {
        final int[] yes = new int[MOST_ITEMS];
        final int[] no = new int[MOST_ITEMS];
        int sessions;
        int last = NONE;

        void clear() {
            Arrays.fill(yes, 0);
            Arrays.fill(no, 0);
            sessions = 0;
            last = NONE;
        }

        void copy(Ballot other) {
            for (int i = 0; i < MOST_ITEMS; i++) {
                yes[i] = other.yesOf(i);
                no[i] = other.noOf(i);
            }
            sessions = other.sessions;
            last = other.last;
        }

        void put(int p, int i, int how) {
            if (i < 0 || i >= MOST_ITEMS || p < 0 || p >= MOST_PERSONS) {
                return;
            }
            int bit = 1 << p;
            yes[i] = how == YES ? yes[i] | bit : yes[i] & ~bit;
            no[i] = how == NO ? no[i] | bit : no[i] & ~bit;
        }

        int yesOf(int i) {
            return i >= 0 && i < yes.length ? yes[i] : 0;
        }

        int noOf(int i) {
            return i >= 0 && i < no.length ? no[i] : 0;
        }

        int howOf(int p, int i) {
            if ((yesOf(i) >> p & 1) != 0) {
                return YES;
            }
            return (noOf(i) >> p & 1) != 0 ? NO : ABSTAINS;
        }

        int leadOf(int i) {
            return Integer.bitCount(yesOf(i)) - Integer.bitCount(noOf(i));
        }

        int standOf(int i) {
            return standBy(leadOf(i));
        }
    }

    /** Ballots as they were ahead of what was done, the oldest lost first. */
    private static final class History {
        final Ballot[] past = new Ballot[MOST_UNDONE];
        int count;
        private int next;

        History() {
            for (int k = 0; k < past.length; k++) {
                past[k] = new Ballot();
            }
        }

        void clear() {
            count = 0;
            next = 0;
        }

        void remember(Ballot ballot) {
            Ballot row = rowAt(next);
            if (row != null) {
                row.copy(ballot);
                next = (next + 1) % MOST_UNDONE;
                count = Math.min(count + 1, MOST_UNDONE);
            }
        }

        void takeBack(Ballot into) {
            int latest = (next + MOST_UNDONE - 1) % MOST_UNDONE;
            Ballot row = rowAt(latest);
            if (row != null && count > 0) {
                into.copy(row);
                next = latest;
                count--;
            }
        }

        private Ballot rowAt(int k) {
            return k >= 0 && k < past.length ? past[k] : null;
        }
    }

    /** What goBack() goes on from. */
    private static final class Image {
        final Ballot ballot = new Ballot();
        int seedThen;
        boolean isKept;
    }

    private static final class Draws {
        int state;

        int next(int n) {
            state = (int) (state * 1103515245L + 12345L & SEED_BITS);
            return n > 0 ? state / 65536 % n : 0;
        }
    }

    /** What is seen, and the book. */
    private static final class Notebook {
        final int[] from = new int[MOST_SEEN];
        final int[] to = new int[MOST_SEEN];
        final int[] where = new int[MOST_ENTRIES];
        final int[] height = new int[MOST_ENTRIES];
        int seen;
        int entries;

        void clear() {
            seen = 0;
            entries = 0;
        }

        void addSeen(int c, int rest) {
            if (seen >= 0 && seen < MOST_SEEN) {
                from[seen] = c;
                to[seen] = rest;
                seen++;
            }
        }

        void addEntry(int c, int high) {
            if (entries >= 0 && entries < MOST_ENTRIES) {
                where[entries] = c;
                height[entries] = high;
                entries++;
            }
        }

        int seenFrom(int s) {
            return s >= 0 && s < from.length ? from[s] : 0;
        }

        int seenTo(int s) {
            return s >= 0 && s < to.length ? to[s] : 0;
        }

        int entryCell(int e) {
            return e >= 0 && e < where.length ? where[e] : 0;
        }

        int entryHeight(int e) {
            return e >= 0 && e < height.length ? height[e] : 0;
        }
    }

    /** One way for all items to stand. */
    private static final class Way {
        final int[] stands = new int[MOST_ITEMS];
        int items;

        int countFor(int itemCount) {
            int ways = 1;
            for (int i = 0; i < itemCount; i++) {
                ways *= STANDS;
            }
            return ways;
        }

        /** The ways rise with their number, as their figures do. */
        void become(int number, int itemCount) {
            items = Math.min(itemCount, MOST_ITEMS);
            int left = number;
            for (int i = items - 1; i >= 0; i--) {
                stands[i] = left % STANDS;
                left /= STANDS;
            }
        }

        void follow(Ballot ballot, int itemCount) {
            items = Math.min(itemCount, MOST_ITEMS);
            for (int i = 0; i < items; i++) {
                stands[i] = ballot.standOf(i);
            }
        }

        int standOf(int i) {
            return i >= 0 && i < items && i < stands.length ? stands[i] : FELL;
        }

        int figures() {
            int number = 0;
            for (int i = 0; i < items; i++) {
                number = number * 10 + standOf(i);
            }
            return number;
        }
    }

    /** How high the cells of a house are by one way, and how marbles roll there. */
    private static final class Hill {
        final int[] heights = new int[MOST_CELLS];
        final int[] shapers = new int[MOST_CELLS];
        /** Where a marble rolls next from each cell, found once it is asked for. */
        final int[] nexts = new int[MOST_CELLS];
        private int cells;
        private int columns;

        void shape(House house, Way way) {
            cells = Math.min(house.cells, MOST_CELLS);
            columns = house.columns;
            for (int c = 0; c < cells; c++) {
                heights[c] = house.ownHeight(c);
                shapers[c] = NONE;
                nexts[c] = NONE;
            }
            for (int i = 0; i < house.items; i++) {
                if (way.standOf(i) != FELL) {
                    lay(house, i, way.standOf(i) == CLOSE);
                }
            }
        }

        private void lay(House house, int i, boolean slopes) {
            int set = house.cellsOf(i);
            int level = house.levelOf(i);
            int lower = slopes ? Math.max(0, level - 1) : level;
            int first = house.firstColumnOf(i);
            for (int c = 0; c < cells; c++) {
                if ((set >> c & 1) != 0) {
                    heights[c] = house.columnOf(c) == first ? level : lower;
                    shapers[c] = i;
                }
            }
        }

        int heightOf(int c) {
            return c >= 0 && c < heights.length ? heights[c] : 0;
        }

        int itemOf(int c) {
            return c >= 0 && c < shapers.length ? shapers[c] : NONE;
        }

        int restFrom(int c) {
            int lies = c;
            for (int step = 0; step < MOST_CELLS; step++) {
                int next = nextFrom(lies);
                if (next == lies) {
                    return lies;
                }
                lies = next;
            }
            return lies;
        }

        int rollsFrom(int c) {
            int lies = c;
            for (int step = 0; step < MOST_CELLS; step++) {
                int next = nextFrom(lies);
                if (next == lies) {
                    return step;
                }
                lies = next;
            }
            return MOST_CELLS;
        }

        private int nextFrom(int c) {
            if (c < 0 || c >= nexts.length) {
                return c;
            }
            if (nexts[c] == NONE) {
                nexts[c] = findNext(c);
            }
            return nexts[c];
        }

        /** The neighbours are tried from the least cell on, so of like ones the least is taken. */
        private int findNext(int c) {
            int column = columns > 0 ? c % columns : 0;
            int next = c;
            if (c >= columns) {
                next = lowerOf(next, c - columns);
            }
            if (column > 0) {
                next = lowerOf(next, c - 1);
            }
            if (column < columns - 1) {
                next = lowerOf(next, c + 1);
            }
            if (c < cells - columns) {
                next = lowerOf(next, c + columns);
            }
            return next;
        }

        private int lowerOf(int first, int second) {
            boolean both = first >= 0 && first < heights.length && second >= 0 && second < heights.length;
            return both && heights[second] < heights[first] ? second : first;
        }
    }
}
