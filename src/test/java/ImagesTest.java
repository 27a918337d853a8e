/** Promises 26 to 28: seed, keep, goBack. */
public final class ImagesTest {
    private static final Due due = new Due();

    public static void main(String[] args) {
        seed();
        keepAndGoBack();
        whatImagesDoNotKeep();
        nothingToUndo();
        bothImagesGoWithTheHouse();
        imagesBehindFault();
        refusals();
        due.end();
    }

    private static void seed() {
        LevelVotes x = new LevelVotes();
        due.is("at first", x.seed(2147483647), 0);
        due.is("the greatest", x.seed(0), 2147483647);
        due.is("-1", x.seed(-1), Due.OUTSIDE);
        due.is("min", x.seed(Integer.MIN_VALUE), Due.OUTSIDE);
        due.is("it stayed", x.seed(7), 0);
        x = Due.made("h1 1;i0 0 1;p00000;");
        x.seed(2147483647);
        x.drift(1);
        long want = 2147483647L;
        for (int k = 0; k < 3; k++) {
            want = (want * 1103515245L + 12345L) % 2147483648L;
        }
        due.is("three draws", x.seed(0), (int) want);
    }

    private static void keepAndGoBack() {
        LevelVotes x = Due.made("h1 1;i0 0 1;i0 0 2;p01222;p21222;");
        x.session();
        x.seed(11);
        due.is("keep(0)", x.keep(0), 1);
        x.vote(0, 0, 1);
        x.vote(1, 0, 1);
        x.session();
        x.seed(22);
        due.is("keep(1)", x.keep(1), 1);
        x.drift(40);
        due.is("goBack(0)", x.goBack(0), 1);
        due.is("votes of 0", x.told(6), 2);
        due.is("sessions of 0", x.told(5), 1);
        due.is("last of 0", x.told(7), 2);
        due.is("seed of 0", x.seed(99), 11);
        due.is("goBack(1)", x.goBack(1), 1);
        due.is("votes of 1", x.told(6), 22);
        due.is("sessions of 1", x.told(5), 2);
        due.is("last of 1", x.told(7), 22);
        due.is("seed of 1", x.seed(99), 22);
        x.vote(0, 0, 0);
        x.vote(1, 0, 0);
        due.is("goBack(1) again", x.goBack(1), 1);
        due.is("an image is not changed by votes", x.told(6), 22);
        due.is("goBack(0) again", x.goBack(0), 1);
        x.vote(0, 0, 1);
        x.keep(0);
        x.vote(0, 0, 0);
        x.goBack(0);
        due.is("kept anew", x.told(6), 12);
    }

    private static void whatImagesDoNotKeep() {
        LevelVotes x = Due.made("h1 1;i0 0 1;p01222;");
        x.see(0, 0);
        x.keep(0);
        x.see(0, 0);
        x.write(0, 1);
        x.feed(65);
        x.goBack(0);
        due.is("seen stays", x.told(10), 2);
        due.is("the book stays", x.told(11), 1);
        due.is("the text stays", x.told(4), 1);
    }

    private static void nothingToUndo() {
        LevelVotes x = Due.made("h1 1;i0 0 1;p01222;");
        x.vote(0, 0, 1);
        x.vote(0, 0, 2);
        x.keep(1);
        due.is("behind keep", x.undo(), Due.NOT);
        x.vote(0, 0, 1);
        x.goBack(1);
        due.is("behind goBack", x.undo(), Due.NOT);
        due.is("told(12)", x.told(12), 0);
        x.vote(0, 0, 1);
        due.is("from there on", x.undo(), 0);
        due.is("as the image", x.votes(0, 0), 2);
    }

    private static void bothImagesGoWithTheHouse() {
        for (String text : new String[] {"h1 1;i0 0 1;p01222;", ""}) {
            LevelVotes x = Due.made("h1 1;i0 0 1;p01222;");
            x.seed(8);
            x.keep(0);
            x.keep(1);
            x.seed(9);
            Due.tell(x, text);
            due.is("image 0 is gone", x.goBack(0), Due.NOT);
            due.is("image 1 is gone", x.goBack(1), Due.NOT);
            due.is("the seed stays", x.seed(0), 9);
            due.is("image 0 anew", x.keep(0), 1);
            due.is("image 0 is there", x.goBack(0), 1);
            due.is("image 1 is not", x.goBack(1), Due.NOT);
        }
    }

    private static void imagesBehindFault() {
        LevelVotes x = Due.made("h1 1;i0 0 1;p01222;");
        x.vote(0, 0, 1);
        x.keep(0);
        x.vote(0, 0, 2);
        Due.tell(x, "h1 1;i0 0 1;p01222;h");
        due.is("the vote stays", x.votes(0, 0), 2);
        due.is("image 0 stays", x.goBack(0), 1);
        due.is("the vote of the image", x.votes(0, 0), 1);
    }

    private static void refusals() {
        LevelVotes x = Due.made("h1 1;i0 0 1;p01222;");
        x.vote(0, 0, 1);
        for (int i : new int[] {-1, 2, Integer.MIN_VALUE, Integer.MAX_VALUE}) {
            due.is("keep(" + i + ")", x.keep(i), Due.UNKNOWN);
            due.is("goBack(" + i + ")", x.goBack(i), Due.UNKNOWN);
        }
        due.is("goBack(0)", x.goBack(0), Due.NOT);
        due.is("goBack(1)", x.goBack(1), Due.NOT);
        due.is("still to be undone", x.told(12), 1);
        x.keep(1);
        due.is("goBack(0) still", x.goBack(0), Due.NOT);
        x = new LevelVotes();
        due.is("keep without a house", x.keep(0), 1);
        due.is("goBack without a house", x.goBack(0), 1);
    }
}
