/** Promises 1 to 4: a new object, feed, house, fault. */
public final class TextTest {
    private static final Due due = new Due();

    public static void main(String[] args) {
        newObject();
        letters();
        sizes();
        heights();
        items();
        persons();
        words();
        numbersOfFigures();
        numbersSideBySide();
        blanks();
        ends();
        emptyText();
        firstOfSeveral();
        leastAtOneLetter();
        clausesInAnyOrder();
        itemsOfTheHouse();
        longestText();
        latestFault();
        houseMakesAllNew();
        faultLeavesAll();
        due.end();
    }

    private static void newObject() {
        LevelVotes x = new LevelVotes();
        for (int what = 0; what <= 12; what++) {
            due.is("new told(" + what + ")", x.told(what), what == 7 ? Due.NONE : 0);
        }
        due.is("new fault()", x.fault(), Due.NONE);
        due.is("new cell", x.cell(0, 0), Due.UNKNOWN);
        due.is("new item", x.item(0, 0), Due.UNKNOWN);
        due.is("new votes", x.votes(0, 0), Due.UNKNOWN);
        due.is("new vote", x.vote(0, 0, 0), Due.UNKNOWN);
        due.is("new session", x.session(), Due.NOT);
        due.is("new rests", x.rests(0, 0), Due.UNKNOWN);
        due.is("new pool", x.pool(0), Due.UNKNOWN);
        due.is("new tips", x.tips(0), Due.UNKNOWN);
        due.is("new fewest", x.fewest(0, 0, 0), Due.UNKNOWN);
        due.is("new waltz(1)", x.waltz(1), Due.UNKNOWN);
        due.is("new see", x.see(0, 0), Due.UNKNOWN);
        due.is("new write", x.write(0, 0), Due.UNKNOWN);
        due.is("new tear", x.tear(), 0);
        due.is("new seed", x.seed(3), 0);
        due.is("new goBack", x.goBack(0), Due.NOT);
    }

    private static void letters() {
        LevelVotes x = new LevelVotes();
        due.is("feed(-1)", x.feed(-1), Due.OUTSIDE);
        due.is("feed(256)", x.feed(256), Due.OUTSIDE);
        due.is("feed(min)", x.feed(Integer.MIN_VALUE), Due.OUTSIDE);
        due.is("told(4) none", x.told(4), 0);
        due.is("feed(0)", x.feed(0), 1);
        due.is("feed(255)", x.feed(255), 2);
        for (int k = 3; k <= 240; k++) {
            due.is("feed " + k, x.feed(32), k);
        }
        due.is("feed 241", x.feed(32), Due.FULL);
        due.is("feed 241 outside", x.feed(256), Due.OUTSIDE);
        due.is("told(4) full", x.told(4), 240);
        due.is("house of letter 0", x.house(), -11);
        due.is("fault of letter 0", x.fault(), 0);
        due.is("told(4) behind house", x.told(4), 0);
        due.is("feed behind house", x.feed(104), 1);
        StringBuilder longest = new StringBuilder("h1 1;");
        while (longest.length() < 239) {
            longest.append(' ');
        }
        due.is("240 letters", Due.tell(new LevelVotes(), longest + " "), 0);
        x = new LevelVotes();
        due.is("240 letters, last wrong", Due.tell(x, " ".repeat(239) + "x"), -11);
        due.is("at the last", x.fault(), 239);
    }

    /** The house of a text has a fault, and where. */
    private static void faulty(String text, int number, int where) {
        LevelVotes x = new LevelVotes();
        due.is("house of " + text, Due.tell(x, text), -10 - number);
        due.is("fault of " + text, x.fault(), where);
        due.is("letters of " + text, x.told(4), 0);
        due.is("no columns of " + text, x.told(0), 0);
    }

    private static LevelVotes good(String text, int items) {
        LevelVotes x = new LevelVotes();
        due.is("house of " + text, Due.tell(x, text), items);
        due.is("fault of " + text, x.fault(), Due.NONE);
        return x;
    }

    private static void sizes() {
        for (int w = 0; w <= 7; w++) {
            for (int h = 0; h <= 6; h++) {
                String text = "h" + w + " " + h + ";";
                if (w < 1 || w > 5) {
                    faulty(text, 2, 1);
                } else if (h < 1 || h > 4) {
                    faulty(text, 2, 3);
                } else {
                    LevelVotes x = good(text, 0);
                    due.is("W of " + text, x.told(0), w);
                    due.is("rows of " + text, x.told(1), h);
                    due.is("last cell of " + text, x.cell(w * h - 1, 0), 0);
                    due.is("no cell of " + text, x.cell(w * h, 0), Due.UNKNOWN);
                }
            }
        }
        good("h00005 00004;", 0);
        faulty("h000005 4;", 2, 1);
        faulty("h5 000004;", 2, 3);
        faulty("h45;", 2, 1);
        faulty("h5;", 1, 2);
        faulty("h;", 1, 1);
        faulty("h5 4 1;", 1, 5);
        faulty("h5,4;", 1, 2);
        faulty("h99999999999999999999 1;", 2, 1);
        faulty("h00006 1;", 2, 1);
        faulty("h00000 1;", 2, 1);
        faulty("h1 00005;", 2, 3);
        faulty("h1 00000;", 2, 3);
        faulty("h99999 1;", 2, 1);
        faulty("h100000 1;", 2, 1);
        faulty("h-1 1;", 1, 1);
    }

    private static void heights() {
        LevelVotes x = good("h5 1;g3,1,4;", 0);
        int[] own = {3, 1, 4, 3, 1};
        for (int c = 0; c < 5; c++) {
            due.is("own height of " + c, x.cell(c, 1), own[c]);
        }
        x = good("h1 2;g7,8,9;", 0);
        due.is("more heights than cells", x.cell(1, 1), 8);
        String twenty = "0,1,2,3,4,5,6,7,8,9,0,1,2,3,4,5,6,7,8,9";
        x = good("h5 4;g" + twenty + ";", 0);
        due.is("20th height", x.cell(19, 1), 9);
        faulty("h5 4;g" + twenty + ",0;", 1, 6 + 39);
        faulty("h5 4;g" + twenty + " , 10;", 1, 6 + 40);
        faulty("h5 4;g;", 1, 6);
        faulty("h5 4;g1,;", 1, 8);
        faulty("h5 4;g,1;", 1, 6);
        faulty("h5 4;g1 2;", 1, 8);
        faulty("h5 4;g1 222222;", 1, 8);
        faulty("h5 4;g1,10;", 2, 8);
        faulty("h5 4;g1,000009;", 2, 8);
        good("h5 4;g00009;", 0);
        faulty("h5 4;g1;i0 0 0;g", 3, 15);
        faulty("h5 4;g-1;", 1, 6);
        faulty("h5 4;g00010;", 2, 6);
        faulty("h5 4;g000000;", 2, 6);
        faulty("h5 4;g99999;", 2, 6);
        x = good("h1 1;g" + twenty + ";", 0);
        due.is("20 heights for one cell", x.cell(0, 1), 0);
        x = good("h5 4;g0,1,2,3,4,5,6,7,8,9,0,1,2,3,4,5,6,7,8;", 0);
        due.is("19 heights: the 20th cell has the first", x.cell(19, 1), 0);
        due.is("19 heights: the 19th cell", x.cell(18, 1), 8);
        x = good("h5 4;g9;", 0);
        due.is("one height: the first cell", x.cell(0, 1), 9);
        due.is("one height: the last cell", x.cell(19, 1), 9);
        x = good("h5 4;", 0);
        due.is("untold: the first cell", x.cell(0, 1), 0);
        due.is("untold: the last cell", x.cell(19, 1), 0);
        // The 20th is judged by itself, not as one too many.
        faulty("h5 4;g" + twenty.substring(0, 38) + "10;", 2, 6 + 38);
        faulty("h5 4;g" + twenty.substring(0, 38) + ",", 1, 6 + 38);
    }

    private static void items() {
        LevelVotes x = good("h3 3;i4 8 2;i0 0 9;", 2);
        due.is("cells of 4 to 8", x.item(0, 0), 1 << 4 | 1 << 5 | 1 << 7 | 1 << 8);
        due.is("L", x.item(0, 1), 2);
        due.is("one cell", x.item(1, 0), 1);
        due.is("L 9", x.item(1, 1), 9);
        faulty("h3 3;i9 8 2;", 2, 6);
        faulty("h3 3;i4 9 2;", 2, 8);
        faulty("h3 3;i4 8 10;", 2, 10);
        faulty("h3 3;i4 3 2;", 4, 8);
        faulty("h3 3;i4 6 2;", 4, 8);
        faulty("h3 3;i4 2 2;", 4, 8);
        faulty("h3 3;i4 1 2;", 4, 8);
        faulty("h3 3;i4 6 10;", 4, 8);
        faulty("h3 3;i8 9 2;", 2, 8);
        faulty("h3 3;i8 100000 2;", 2, 8);
        faulty("h3 3;i4 8;", 1, 9);
        faulty("h3 3;i4 8 2 1;", 1, 12);
        faulty("h3 3;i000004 8 2;", 2, 6);
        faulty("h3 3;i4 000008 2;", 2, 8);
        faulty("h3 3;i4 8 000002;", 2, 10);
        faulty("h3 3;i9 9 2;", 2, 6);
        faulty("h3 3;i4 8 99999;", 2, 10);
        faulty("h3 3;i48 2;", 2, 6);
        faulty("h3 3;i4 82;", 2, 8);
        faulty("h5 4;i012 19;", 1, 12);
        good("h3 3;i00004 00008 00002;", 1);
        x = good("h5 4;i19 19 0;i0 19 9;i5 7 0;i3 18 1;", 4);
        due.is("the last cell", x.item(0, 0), 1 << 19);
        due.is("L 0", x.item(0, 1), 0);
        due.is("all cells", x.item(1, 0), (1 << 20) - 1);
        due.is("one row", x.item(2, 0), 1 << 5 | 1 << 6 | 1 << 7);
        due.is("one column", x.item(3, 0), 1 << 3 | 1 << 8 | 1 << 13 | 1 << 18);
        faulty("h5 4;i20 20 0;", 2, 6);
        faulty("h5 4;i0 20 0;", 2, 8);
        faulty("h5 4;i6 5 0;", 4, 8);
        faulty("h5 4;i6 1 0;", 4, 8);
        faulty("h5 4;i6 10 0;", 4, 8);
        faulty("h5 4;i6 2 0;", 4, 8);
        faulty("h5 4;i6 00005 0;", 4, 8);
        String five = "h1 1;i0 0 1;i0 0 2;i0 0 3;i0 0 4;i0 0 5;";
        good(five, 5);
        faulty(five + "i0 0 6;", 3, five.length());
        faulty(five + "p00000;i", 3, five.length() + 7);
        faulty(five + " i", 3, five.length() + 1);
        good(five + "p00000;", 5);
    }

    private static void persons() {
        LevelVotes x = good("h1 1;p01201;i0 0 1;i0 0 2;i0 0 3;i0 0 4;i0 0 5;p22222;", 5);
        int[] how = {0, 1, 2, 0, 1};
        for (int i = 0; i < 5; i++) {
            due.is("vote on " + i, x.votes(0, i), how[i]);
            due.is("abstains on " + i, x.votes(1, i), 2);
        }
        faulty("h1 1;p0000;", 2, 6);
        faulty("h1 1;p000000;", 2, 6);
        faulty("h1 1;p00003;", 2, 6);
        faulty("h1 1;p30000;", 2, 6);
        faulty("h1 1;p 00 000;", 2, 7);
        faulty("h1 1;p00000 0;", 1, 12);
        faulty("h1 1;p;", 1, 6);
        faulty("h1 1;px", 1, 6);
        faulty("h1 1;p00000000000000000000;", 2, 6);
        faulty("h1 1;p0000", 2, 6);
        faulty("h1 1;p000000", 2, 6);
        faulty("h1 1;p0x000;", 2, 6);
        for (int place = 0; place < 5; place++) {
            for (char figure = '3'; figure <= '9'; figure++) {
                faulty("h1 1;p" + "21012".substring(0, place) + figure + "21012".substring(place + 1) + ";", 2, 6);
            }
        }
        good("h1 1;p00000;p11111;p22222;", 0);
        String seven = "h1 1;p00000;p00000;p00000;p00000;p00000;p00000;p00000;";
        x = good(seven, 0);
        due.is("persons", x.told(3), 7);
        faulty(seven + "p00000;", 3, seven.length());
        faulty(seven + "p", 3, seven.length());
        faulty(seven + "p9", 3, seven.length());
        faulty(seven + "i0 0 0;p00000;", 3, seven.length() + 7);
        good(seven + "i0 0 0;", 1);
    }

    private static void words() {
        faulty("x", 1, 0);
        faulty("g1;h1 1;", 1, 0);
        faulty("i0 0 0;", 1, 0);
        faulty("p00000;", 1, 0);
        faulty("H1 1;", 1, 0);
        faulty(";", 1, 0);
        faulty("1", 1, 0);
        faulty("h1 1;;", 1, 5);
        faulty("h1 1;1", 1, 5);
        faulty("h1 1;x", 1, 5);
        faulty("h1 1;h1 1;", 3, 5);
        faulty("h1 1;\t", 1, 5);
        faulty("h1\t1;", 1, 2);
        faulty("h1 1;" + (char) 233, 1, 5);
        for (int letter = 0; letter <= 255; letter++) {
            boolean isWord = "hgip ".indexOf(letter) >= 0;
            if (letter != 'h' && letter != 32) {
                faulty("" + (char) letter, 1, 0);
            }
            if (!isWord) {
                faulty("h1 1;" + (char) letter, 1, 5);
            }
            if (!Character.isDigit(letter) && letter != 32) {
                faulty("h" + (char) letter, 1, 1);
            }
            if (!Character.isDigit(letter) && letter != 32 && letter != ';') {
                faulty("h1 1" + (char) letter, 1, 4);
            }
        }
    }

    /** A number of five figures counts by its value, one of six never. */
    private static void numbersOfFigures() {
        String[] start = {"h", "h1 ", "h1 1;g", "h1 1;g1,", "h1 1;i", "h1 1;i0 ", "h1 1;i0 0 "};
        String[] end = {" 1;", ";", ";", ";", " 0 0;", " 0;", ";"};
        int[] items = {0, 0, 0, 0, 1, 1, 1};
        for (int k = 0; k < start.length; k++) {
            String figure = k < 2 ? "1" : "0";
            for (int zeros = 0; zeros <= 4; zeros++) {
                good(start[k] + "0".repeat(zeros) + figure + end[k], items[k]);
            }
            faulty(start[k] + "0".repeat(5) + figure + end[k], 2, start[k].length());
            faulty(start[k] + "0".repeat(6) + figure + end[k], 2, start[k].length());
            faulty(start[k] + "99999" + end[k], 2, start[k].length());
            faulty(start[k] + "4294967296" + figure + end[k], 2, start[k].length());
            faulty(start[k] + "000000", 2, start[k].length());
            faulty(start[k], 1, start[k].length());
            faulty(start[k] + ";", 1, start[k].length());
        }
    }

    private static void numbersSideBySide() {
        good("h5 4;", 0);
        faulty("h54;", 2, 1);
        faulty("h11;", 2, 1);
        faulty("h1;", 1, 2);
        good("h5 4;i1 19 9;", 1);
        faulty("h5 4;i119 9;", 2, 6);
        faulty("h5 4;i1 199;", 2, 8);
        faulty("h5 4;i1199;", 2, 6);
        faulty("h5 4;i012 9;", 4, 10);
        faulty("h5 4;i012 19;", 1, 12);
        good("h5 4;g1,2;", 0);
        faulty("h5 4;g12;", 2, 6);
        good("h5 4;g01;", 0);
    }

    private static void emptyText() {
        LevelVotes x = new LevelVotes();
        due.is("empty at first", x.house(), 0);
        due.is("no fault", x.fault(), Due.NONE);
        due.is("no house", x.session(), Due.NOT);
        due.is("a house", Due.tell(x, "h2 2;g3;i0 3 5;p11111;"), 1);
        due.is("its session", x.session(), 1);
        due.is("empty again", x.house(), 0);
        due.is("no fault again", x.fault(), Due.NONE);
        for (int what = 0; what <= 12; what++) {
            due.is("told(" + what + ") of no house", x.told(what), what == 7 ? Due.NONE : 0);
        }
        due.is("no session", x.session(), Due.NOT);
        due.is("no cell", x.cell(0, 1), Due.UNKNOWN);
        due.is("no item", x.item(0, 1), Due.UNKNOWN);
        due.is("no person", x.votes(0, 0), Due.UNKNOWN);
        due.is("no bit", x.waltz(1), Due.UNKNOWN);
        due.is("a fault of a new object", Due.tell(new LevelVotes(), "h"), -11);
        x = new LevelVotes();
        Due.tell(x, "h1 1;x");
        due.is("no house by a fault", x.session(), Due.NOT);
        due.is("no cell by a fault", x.cell(0, 0), Due.UNKNOWN);
    }

    private static void blanks() {
        LevelVotes x = good("  h 5   4 ; g 1 , 2 ;i 0  6 3 ; p 10000 ;  ", 1);
        due.is("blanks: height", x.cell(6, 1), 1);
        due.is("blanks: cells", x.item(0, 0), 99);
        due.is("blanks: persons", x.told(3), 1);
        faulty("h5 4;i0 1 0 0;", 1, 12);
        faulty("h5 4;g1 0;", 1, 8);
        faulty("h5 4;i1 2 17 9;", 2, 10);
        faulty("h5 4;p000 00;", 2, 6);
        good("h5  4;i0   19    9;", 1);
        x = Due.made("h1 1;");
        due.is("blanks alone", Due.tell(x, "   "), 0);
        due.is("blanks alone: no house", x.told(0), 0);
        due.is("blanks alone: fault", x.fault(), Due.NONE);
        due.is("240 blanks alone", Due.tell(x, " ".repeat(240)), 0);
        due.is("240 blanks alone: fault", x.fault(), Due.NONE);
    }

    private static void ends() {
        String whole = "h2 1;g1,2;i0 1 3;p00000;";
        for (int k = 1; k < whole.length(); k++) {
            boolean isWhole = whole.charAt(k - 1) == ';';
            boolean inVote = k > 18 && k < 23;
            String part = whole.substring(0, k);
            if (isWhole) {
                good(part, k > 10 + 6 ? 1 : 0);
            } else if (inVote) {
                faulty(part, 2, 18);
            } else {
                faulty(part, 1, k);
            }
        }
        faulty("h6", 2, 1);
        faulty("h1  ", 1, 4);
    }

    private static void firstOfSeveral() {
        faulty("h1 1;i5 0 99;x", 2, 6);
        faulty("h2 2;i3 4 0;", 2, 8);
        faulty("h2 2;i3 0 99;", 4, 8);
        faulty("h6x", 2, 1);
        faulty("h1 1;g1;p00000;g99;", 3, 15);
    }

    /** One letter may have several faults: the least is told. */
    private static void leastAtOneLetter() {
        // 1 before 3: a word that comes too often where none can stand.
        faulty("h1 h", 1, 3);
        faulty("h1 1h1 1;", 1, 4);
        faulty("h1 1;g1g1;", 1, 7);
        faulty("h1 1;g1,g1;", 1, 8);
        String five = "h1 1;i0 0 1;i0 0 2;i0 0 3;i0 0 4;i0 0 5";
        faulty(five + "i0 0 6;", 1, five.length());
        String seven = "h1 1;p00000;p00000;p00000;p00000;p00000;p00000;p00000";
        faulty(seven + "p00000;", 1, seven.length());
        // 2 before 4: a B of six figures that is above A, too.
        faulty("h3 3;i4 000000 2;", 2, 8);
        faulty("h3 3;i4 000003 2;", 2, 8);
        // 1 before 2: the 21st height is one too many at its ',', whatever it would be.
        String twenty = "h1 1;g1,1,1,1,1,1,1,1,1,1,1,1,1,1,1,1,1,1,1,1";
        good(twenty + ";", 0);
        faulty(twenty + ",1;", 1, twenty.length());
        faulty(twenty + ",100000;", 1, twenty.length());
        faulty(twenty + "  ,", 1, twenty.length() + 2);
    }

    private static void clausesInAnyOrder() {
        LevelVotes x = good("h2 1;p10222;i0 1 3;p12222;g5,6;i1 1 4;", 2);
        due.is("heights told late", x.cell(1, 1), 6);
        due.is("item 0", x.item(0, 1), 3);
        due.is("item 1", x.item(1, 1), 4);
        due.is("two yes", x.item(0, 3), 3);
        due.is("one no", x.item(1, 4), 1);
        faulty("p10222;h2 1;", 1, 0);
        faulty(" i0 0 0;h2 1;", 1, 1);
    }

    private static void itemsOfTheHouse() {
        StringBuilder text = new StringBuilder("h1 1;");
        for (int items = 0; items <= 5; items++) {
            LevelVotes x = good(text.toString(), items);
            due.is("items", x.told(2), items);
            due.is("no item " + items, x.item(items, 0), Due.UNKNOWN);
            text.append("i0 0 ").append(items).append(";");
        }
        text = new StringBuilder("h1 1;i0 0 0;");
        for (int persons = 0; persons <= 7; persons++) {
            LevelVotes x = good(text.toString(), 1);
            due.is("persons", x.told(3), persons);
            due.is("no person " + persons, x.votes(persons, 0), Due.UNKNOWN);
            due.is("all vote yes", x.item(0, 3), (1 << persons) - 1);
            text.append("p11111;");
        }
    }

    /** 240 letters are read to the last; the end of such a text is its length. */
    private static void longestText() {
        String start = "h2 1;" + " ".repeat(240 - 5 - 7);
        good(start + "i0 1 7;", 1);
        good(start + "p12222;", 0);
        faulty(start + "i0 1 77", 2, 238);
        faulty(start + "i0 1 7 ", 1, 240);
        faulty(start + "p00000x", 1, 239);
        faulty(start + "      i", 1, 240);
        faulty("h" + "1".repeat(239), 2, 1);
        faulty(" ".repeat(239) + "h", 1, 240);
        faulty(" ".repeat(239) + "g", 1, 239);
        faulty("h1 1;p" + "0".repeat(234), 2, 6);
        good("h1 1;" + " ".repeat(235), 0);
    }

    /** The fault of the latest house() stays, whatever else is called, till the next. */
    private static void latestFault() {
        LevelVotes x = new LevelVotes();
        due.is("no house() yet", x.fault(), Due.NONE);
        due.is("fault 4", Due.tell(x, "h2 2;i3 2 0;"), -14);
        x.feed('h');
        x.session();
        x.keep(0);
        x.goBack(0);
        x.tear();
        due.is("its letter", x.fault(), 8);
        due.is("fault 1", x.house(), -11);
        due.is("the end's letter", x.fault(), 1);
        due.is("an empty text", x.house(), 0);
        due.is("no fault", x.fault(), Due.NONE);
        due.is("fault 2", Due.tell(x, "h9"), -12);
        due.is("letter 1", x.fault(), 1);
        due.is("fault 3", Due.tell(x, "h1 1;h"), -13);
        due.is("letter 5", x.fault(), 5);
        due.is("a house", Due.tell(x, "h1 1;"), 0);
        due.is("no fault then", x.fault(), Due.NONE);
    }

    private static void houseMakesAllNew() {
        LevelVotes x = Due.made("h2 1;g1,2;i0 1 3;p10000;");
        x.vote(0, 0, 2);
        x.session();
        x.see(0, 0);
        x.write(0, 1);
        x.keep(1);
        x.seed(77);
        x.vote(0, 0, 1);
        due.is("house anew", Due.tell(x, "h1 2;p00000;i0 0 0;p11111;"), 1);
        due.is("columns anew", x.told(0), 1);
        due.is("rows anew", x.told(1), 2);
        due.is("persons anew", x.told(3), 2);
        due.is("sessions anew", x.told(5), 0);
        due.is("last anew", x.told(7), Due.NONE);
        due.is("seen anew", x.told(10), 0);
        due.is("book anew", x.told(11), 0);
        due.is("undone anew", x.told(12), 0);
        due.is("undo anew", x.undo(), Due.NOT);
        due.is("image anew", x.goBack(1), Due.NOT);
        due.is("height anew", x.cell(0, 1), 0);
        due.is("votes anew", x.votes(0, 0), 0);
        due.is("seed stays", x.seed(0), 77);
        Due.tell(x, "h2 1;i0 1 3;");
        due.is("nobody's vote is left", x.told(6), 0);
        due.is("nobody voted yes", x.item(0, 3), 0);
        due.is("no height is left", x.cell(1, 1), 0);
        Due.tell(x, "h1 1;p11111;p11111;i0 0 3;");
        due.is("two voted yes", x.item(0, 3), 3);
        Due.tell(x, "h1 1;p00000;p00000;i0 0 3;");
        Due.tell(x, "h1 1;i0 0 3;");
        due.is("nobody voted yes then", x.item(0, 3), 0);
        Due.tell(x, "h1 1;i0 0 3;");
        due.is("nobody voted no then", x.item(0, 4), 0);
        x.session();
        x.keep(0);
        due.is("empty text", x.house(), 0);
        due.is("no rows", x.told(1), 0);
        due.is("no cell 0", x.cell(0, 0), Due.UNKNOWN);
        due.is("no columns", x.told(0), 0);
        due.is("no items", x.told(2), 0);
        due.is("no persons", x.told(3), 0);
        due.is("no sessions", x.told(5), 0);
        due.is("no last", x.told(7), Due.NONE);
        due.is("no image", x.goBack(0), Due.NOT);
        due.is("no session", x.session(), Due.NOT);
    }

    private static void faultLeavesAll() {
        LevelVotes x = Due.made("h2 1;g1,2;i0 1 3;p10000;p12222;");
        x.keep(1);
        x.session();
        x.see(1, 0);
        x.write(0, 3);
        x.seed(5);
        due.is("fault", Due.tell(x, "h5 4;i0 19 9;p00000;p00000;x"), -11);
        due.is("fault at", x.fault(), 27);
        due.is("columns stay", x.told(0), 2);
        due.is("items stay", x.item(0, 1), 3);
        due.is("persons stay", x.told(3), 2);
        due.is("votes stay", x.votes(1, 0), 1);
        due.is("sessions stay", x.told(5), 1);
        due.is("last stays", x.told(7), 2);
        due.is("seen stays", x.told(10), 1);
        due.is("book stays", x.told(11), 1);
        due.is("undone stays", x.told(12), 1);
        due.is("seed stays", x.seed(0), 5);
        due.is("image stays", x.goBack(1), 1);
        due.is("fault again", x.fault(), 27);
        due.is("house anew", Due.tell(x, "h1 1;"), 0);
        due.is("fault no more", x.fault(), Due.NONE);
    }
}
