/** Each promise of the document by answers worked out by hand: ordinary inputs, edges, wrong inputs. */
public final class PromisesTest {
    private static final int NONE = CutTrees.NONE;
    private static final int LEAST_INT = Integer.MIN_VALUE;
    private static final int LARGEST_INT = Integer.MAX_VALUE;
    private static final int[] WRONG = Due.BEYOND;

    public static void main(String[] args) {
        newObject();
        piece();
        pieceTakesTheTree();
        drop();
        look();
        buildRule0();
        buildRule1();
        buildRule2();
        buildRule3();
        buildRefused();
        count();
        knot();
        part();
        where();
        orderAndTold();
        toldOfAnotherTree();
        sees();
        ray();
        met();
        least();
        sum();
        mostParts();
        Due.end();
    }

    private static void newObject() {
        CutTrees x = new CutTrees();
        Due.is("NONE", CutTrees.NONE, -1);
        Due.counts(x, 0, 0, 0, 0, 0, 0);
        Due.is("where", x.where(0, 0), NONE);
        Due.is("order", x.order(0, 0), NONE);
        Due.told(x);
        Due.met(x);
        Due.is("look throws", Due.thrownByLook(x, 0, 0), Due.INDEX);
        Due.is("knot throws", Due.thrownByKnot(x, 0, 0), Due.INDEX);
        Due.is("part throws", Due.thrownByPart(x, 0, 0), Due.INDEX);
        Due.is("sees", x.sees(-1000, -1000, 1000, 1000), 1);
        Due.is("ray", x.ray(0, 0, 1, 0), 0);
        Due.is("least", x.least(), 0);
        Due.is("sum", x.sum(), 0);
        CutTrees other = Make.of(0, 0, 1, 0);
        other.build(0, 0);
        Due.counts(x, 0, 0, 0, 0, 0, 0);
    }

    private static void piece() {
        CutTrees x = Make.of(-1000, -1000, 1000, 1000, -1000, -1000, 1000, 1000, 1000, 1000, -1000, -1000);
        for (int wrong : WRONG) {
            Due.is("x0", x.piece(wrong, 0, 1, 1), NONE);
            Due.is("y0", x.piece(0, wrong, 1, 1), NONE);
            Due.is("x1", x.piece(1, 1, wrong, 0), NONE);
            Due.is("y1", x.piece(1, 1, 0, wrong), NONE);
        }
        Due.is("alike", x.piece(7, -7, 7, -7), NONE);
        Due.is("alike at 0", x.piece(0, 0, 0, 0), NONE);
        Due.counts(x, 3);
        Due.is("next", x.piece(0, 0, 0, 1), 3);
        Due.is("next", x.piece(0, 0, 1, 0), 4);
        for (int i = 5; i < 24; i++) {
            Due.is("piece", x.piece(i, 0, 0, i), i);
        }
        Due.is("25th", x.piece(0, 0, 9, 9), NONE);
        Due.counts(x, 24);
        Due.look(x, 23, 23, 0, 0, 23);
    }

    private static void pieceTakesTheTree() {
        CutTrees x = Make.of(0, 0, 10, 0, 5, -5, 5, 5);
        x.build(0, 0);
        x.order(0, 5);
        Due.is("refused", x.piece(0, 0, 0, 0), NONE);
        Due.is("refused", x.piece(0, 0, 1001, 0), NONE);
        Due.counts(x, 2, 3, 3, 4, 2, 1);
        Due.told(x, 2, 0, 1);
        Due.is("piece", x.piece(1, 1, 2, 2), 2);
        Due.noTree(x, 3);
    }

    private static void drop() {
        CutTrees x = Make.of(0, 0, 10, 0, 5, -5, 5, 5);
        x.build(0, 0);
        x.order(0, 5);
        Due.is("drop", x.drop(), 1);
        Due.noTree(x, 1);
        Due.look(x, 0, 0, 0, 10, 0, 0);
        Due.is("look throws", Due.thrownByLook(x, 1, 0), Due.INDEX);
        Due.is("piece", x.piece(1, 2, 3, 4), 1);
        Due.look(x, 1, 1, 2, 3, 4, 0);
        Due.is("drop", x.drop(), 1);
        Due.is("drop", x.drop(), 0);
        Due.is("drop", x.drop(), NONE);
        Due.is("build", x.build(0, 0), 0);
        Due.is("drop", x.drop(), NONE);
        Due.counts(x, 0, 0, 0, 1, 0, 0);
        Due.is("piece", x.piece(1, 2, 3, 4), 0);
    }

    private static void look() {
        CutTrees x = Make.of(1, -2, -3, 4, -1000, 1000, 1000, -1000);
        Due.look(x, 0, 1, -2, -3, 4, 0);
        Due.look(x, 1, -1000, 1000, 1000, -1000, 0);
        x.build(0, 0);
        Due.look(x, 0, 1, -2, -3, 4, 1);
        Due.look(x, 1, -1000, 1000, 1000, -1000, 2);
        int[] noPiece = {LEAST_INT, -1, 2, 24, LARGEST_INT};
        for (int wrong : noPiece) {
            Due.is("look throws", Due.thrownByLook(x, wrong, 0), Due.INDEX);
            Due.is("look throws", Due.thrownByLook(x, wrong, 5), Due.INDEX);
        }
        int[] noWhat = {LEAST_INT, -1, 5, LARGEST_INT};
        for (int wrong : noWhat) {
            Due.is("look throws", Due.thrownByLook(x, 1, wrong), Due.ELEMENT);
        }
    }

    private static void buildRule0() {
        CutTrees empty = new CutTrees();
        for (int rule = 0; rule < 4; rule++) {
            Due.is("build of none", empty.build(rule, 3), 0);
            Due.counts(empty, 0, 0, 0, 1, 0, 0);
        }
        // On one line, one of them the other way round, with a piece between that only touches it.
        CutTrees x = Make.of(0, 0, 10, 0, 5, 0, 5, 7, 30, 0, 20, 0, 6, -2, 6, 0);
        Due.is("build", x.build(0, 0), 3);
        Due.counts(x, 4, 3, 4, 4, 2, 0);
        Due.knot(x, 0, 0, 2, 0, 1, 2, NONE);
        Due.knot(x, 1, 1, 1, 2, -2, -3, 0);
        Due.knot(x, 2, 3, 1, 3, -4, -5, 0);
        Due.part(x, 1, 2, 30, 0, 1, 20, 0, 1, 0);
        // A cut piece stays at its place in the row: the halves of piece 1 come ahead of piece 2.
        CutTrees y = Make.of(0, 0, 10, 0, 5, -5, 5, 5, 1, 1, 9, 1, 1, -1, 9, -1);
        Due.is("build", y.build(0, 0), 7);
        Due.knot(y, 0, 0, 1, 0, 1, 4, NONE);
        Due.knot(y, 1, 1, 1, 1, 2, 3, 0);
        Due.knot(y, 2, 2, 1, 2, -2, -3, 1);
        Due.knot(y, 3, 2, 1, 3, -4, -5, 1);
        Due.knot(y, 4, 1, 1, 4, 5, 6, 0);
        Due.part(y, 2, 2, 1, 1, 1, 5, 1, 1, 2);
        Due.part(y, 3, 2, 5, 1, 1, 9, 1, 1, 3);
    }

    private static void buildRule1() {
        CutTrees x = Make.of(5, -1, 5, 1, 0, 3, 10, 3);
        Due.is("rule 0", x.build(0, 0), 3);
        Due.knot(x, 0, 0);
        Due.is("rule 1", x.build(1, 0), 2);
        Due.knot(x, 0, 1, 1, 0, -2, 1, NONE);
        CutTrees alike = Make.of(0, 0, 10, 0, 5, -5, 5, 5);
        alike.build(1, 0);
        Due.knot(alike, 0, 0);
    }

    // From the seed 1 the draws are 16838, 5758, 10113, 17515, 31051.
    private static void buildRule2() {
        CutTrees x = Make.level(5);
        Due.is("build", x.build(2, 1), 5);
        Due.counts(x, 5, 5, 5, 6, 4, 0);
        Due.knot(x, 0, 3, 1, 0, 1, 2, NONE);
        Due.knot(x, 1, 4, 1, 1, -2, -3, 0);
        Due.knot(x, 2, 0, 1, 2, 3, -7, 0);
        Due.knot(x, 3, 2, 1, 3, -4, 4, 2);
        Due.knot(x, 4, 1, 1, 4, -5, -6, 3);
        x.build(0, 9);
        x.build(2, 1);
        Due.knot(x, 0, 3);
        // Worked out in 64 bits and then brought down to 32: the draw goes round.
        CutTrees y = Make.level(24);
        int draw = (int) (1103515245L * LEAST_INT + 12345L) >> 16 & 32767;
        y.build(2, LEAST_INT);
        Due.knot(y, 0, draw % 24);
        draw = (int) (1103515245L * -12345L + 12345L) >> 16 & 32767;
        y.build(2, -12345);
        Due.knot(y, 0, draw % 24);
    }

    private static void buildRule3() {
        // Line 1 cuts piece 0 and leaves one on each side; line 0 leaves one on one side alone.
        CutTrees cutting = Make.of(0, 3, 10, 3, 5, -1, 5, 1);
        Due.is("rule 3", cutting.build(3, 0), 3);
        Due.knot(cutting, 0, 1);
        // Line 0 cuts both others, line 1 lies between the others: alike sizes, fewer cuts.
        CutTrees fewer = Make.of(5, -1, 5, 1, 0, 3, 10, 3, 0, 6, 10, 6);
        Due.is("rule 3", fewer.build(3, 0), 3);
        Due.knot(fewer, 0, 1);
        // The middle one of five, then of two the first.
        CutTrees middle = Make.level(5);
        middle.build(3, 0);
        Due.knot(middle, 0, 2, 1, 0, 1, 3, NONE);
        Due.knot(middle, 1, 3, 1, 1, 2, -4, 0);
        Due.knot(middle, 2, 4);
        Due.knot(middle, 3, 0);
    }

    private static void buildRefused() {
        CutTrees x = Make.of(0, 0, 10, 0, 5, -5, 5, 5);
        x.build(0, 0);
        x.order(0, 5);
        int[] noRule = {LEAST_INT, -1, 4, LARGEST_INT};
        for (int wrong : noRule) {
            Due.is("build", x.build(wrong, 0), NONE);
        }
        Due.counts(x, 2, 3, 3, 4, 2, 1);
        Due.told(x, 2, 0, 1);
        x.drop();
        Due.is("build", x.build(4, 0), NONE);
        Due.noTree(x, 1);
    }

    private static void count() {
        CutTrees x = Make.of(0, 0, 10, 0, 5, -5, 5, 5, 20, 0, 30, 0);
        Due.counts(x, 3, 0, 0, 0, 0, 0);
        x.build(0, 0);
        Due.counts(x, 3, 3, 4, 4, 2, 1);
        int[] noWhat = {LEAST_INT, -1, 6, LARGEST_INT};
        for (int wrong : noWhat) {
            Due.is("count", x.count(wrong), NONE);
        }
        CutTrees chain = Make.level(24);
        chain.build(0, 0);
        Due.counts(chain, 24, 24, 24, 25, 24, 0);
        chain.build(3, 0);
        Due.counts(chain, 24, 24, 24, 25, 5, 0);
        CutTrees star = Make.star(7);
        star.build(0, 0);
        Due.counts(star, 7, 13, 13, 14, 7, 6);
    }

    private static void knot() {
        CutTrees x = Make.of(0, 0, 10, 0, 5, -5, 5, 5, 20, 0, 30, 0);
        x.build(0, 0);
        Due.knot(x, 0, 0, 2, 0, 1, 2, NONE);
        Due.knot(x, 1, 1, 1, 2, -2, -3, 0);
        Due.knot(x, 2, 1, 1, 3, -4, -5, 0);
        int[] noKnot = {LEAST_INT, -1, 3, 300, LARGEST_INT};
        for (int wrong : noKnot) {
            Due.is("knot throws", Due.thrownByKnot(x, wrong, 0), Due.INDEX);
            Due.is("knot throws", Due.thrownByKnot(x, wrong, 6), Due.INDEX);
        }
        int[] noWhat = {LEAST_INT, -1, 6, LARGEST_INT};
        for (int wrong : noWhat) {
            Due.is("knot throws", Due.thrownByKnot(x, 0, wrong), Due.ELEMENT);
        }
    }

    private static void part() {
        CutTrees x = Make.of(-1000, -1000, 1000, 999, -1000, 1000, 1000, -1000);
        x.build(0, 0);
        Due.part(x, 0, 0, -1000, -1000, 1, 1000, 999, 1, 0);
        Due.part(x, 1, 1, -1000, 1000, 1, 1000, -1000, 3999, 1);
        Due.part(x, 2, 1, 1000, -1000, 3999, 1000, -1000, 1, 2);
        // Against the run of the line the second half is in front and is numbered first.
        CutTrees y = Make.of(10, 0, -10, 0, 0, -3, 2, 3);
        y.build(0, 0);
        Due.part(y, 1, 1, 0, -3, 1, 1, 0, 1, 1);
        Due.part(y, 2, 1, 1, 0, 1, 2, 3, 1, 2);
        // X and W, but not Y, share a divisor: the three of them share none.
        CutTrees z = Make.of(0, 1, 12, 6, 6, -100, 6, 100, 3, -100, 3, 100);
        z.build(0, 0);
        Due.part(z, 0, 0, 0, 1, 1, 12, 6, 1, 0);
        Due.part(z, 1, 1, 12, 7, 2, 6, 100, 1, 1);
        Due.part(z, 2, 2, 12, 9, 4, 3, 100, 1, 2);
        Due.part(z, 3, 1, 6, -100, 1, 12, 7, 2, 3);
        Due.part(z, 4, 2, 3, -100, 1, 12, 9, 4, 4);
        cutTwice();
        int[] noPart = {LEAST_INT, -1, 3, 300, LARGEST_INT};
        for (int wrong : noPart) {
            Due.is("part throws", Due.thrownByPart(x, wrong, 0), Due.INDEX);
            Due.is("part throws", Due.thrownByPart(x, wrong, 8), Due.INDEX);
        }
        int[] noWhat = {LEAST_INT, -1, 8, LARGEST_INT};
        for (int wrong : noWhat) {
            Due.is("part throws", Due.thrownByPart(x, 0, wrong), Due.ELEMENT);
        }
    }

    private static void cutTwice() {
        CutTrees x = Make.of(0, 0, 0, 1, 1, 0, 1, 1, 4, 5, -2, 5);
        x.build(0, 0);
        Due.counts(x, 3, 5, 5, 6, 3, 2);
        Due.part(x, 0, 0, 0, 0, 1, 0, 1, 1, 0);
        Due.part(x, 1, 2, 0, 5, 1, -2, 5, 1, 1);
        Due.part(x, 2, 1, 1, 0, 1, 1, 1, 1, 2);
        Due.part(x, 3, 2, 1, 5, 1, 0, 5, 1, 3);
        Due.part(x, 4, 2, 4, 5, 1, 1, 5, 1, 4);
    }

    private static void where() {
        CutTrees x = Make.of(0, 0, 10, 0, 5, -5, 5, 5);
        Due.is("without a tree", x.where(0, 0), NONE);
        x.build(0, 0);
        Due.is("where", x.where(-1000, 1000), 0);
        Due.is("where", x.where(1000, 1000), 1);
        Due.is("where", x.where(-1000, -1000), 2);
        Due.is("where", x.where(1000, -1000), 3);
        Due.is("on both lines, the upper one", x.where(5, 0), -2);
        Due.is("on the line behind the piece", x.where(999, 0), -2);
        Due.is("on a lower line", x.where(5, 999), -3);
        Due.is("on a lower line", x.where(5, -999), -4);
        CutTrees chain = Make.level(24);
        chain.build(0, 0);
        Due.is("the longest way down", chain.where(0, 1000), 0);
        Due.is("the lowest line", chain.where(0, 23), -2 - 23);
        Due.is("the shortest way down", chain.where(0, -1), 24);
        for (int wrong : WRONG) {
            Due.is("beyond", x.where(wrong, 0), NONE);
            Due.is("beyond", x.where(0, wrong), NONE);
        }
    }

    private static void orderAndTold() {
        CutTrees x = Make.of(0, 0, 10, 0, 5, -5, 5, 5, 20, 0, 30, 0);
        Due.is("without a tree", x.order(0, 0), NONE);
        x.build(0, 0);
        Due.told(x);
        Due.is("in front", x.order(0, 5), 4);
        Due.told(x, 3, 0, 1, 2);
        Due.is("in back", x.order(0, -5), 4);
        Due.told(x, 2, 0, 1, 3);
        Due.is("on", x.order(-1000, 0), 4);
        Due.told(x, 2, 0, 1, 3);
        for (int wrong : WRONG) {
            Due.is("beyond", x.order(wrong, 5), NONE);
            Due.is("beyond", x.order(0, wrong), NONE);
        }
        Due.told(x, 2, 0, 1, 3);
        Due.is("told", x.told(LEAST_INT), NONE);
        Due.is("told", x.told(LARGEST_INT), NONE);
        CutTrees y = Make.level(4);
        y.build(3, 0);
        Due.is("from above", y.order(0, 1000), 4);
        for (int k = 0; k < 4; k++) {
            Due.part(y, y.told(k), k);
        }
        Due.is("from below", y.order(0, -1000), 4);
        for (int k = 0; k < 4; k++) {
            Due.part(y, y.told(k), 3 - k);
        }
        CutTrees empty = new CutTrees();
        empty.build(0, 0);
        Due.is("of none", empty.order(0, 0), 0);
        Due.told(empty);
    }

    private static void toldOfAnotherTree() {
        CutTrees x = Make.of(0, 0, 10, 0, 5, -5, 5, 5);
        x.build(0, 0);
        x.order(0, 5);
        Due.told(x, 2, 0, 1);
        x.least();
        x.sum();
        x.where(0, 0);
        x.ray(0, 0, 1, 1);
        x.sees(0, 0, 1, 1);
        Due.told(x, 2, 0, 1);
        Due.counts(x, 2, 3, 3, 4, 2, 1);
        x.build(1, 0);
        Due.told(x);
        x.order(0, 5);
        x.piece(1, 1, 2, 2);
        x.drop();
        Due.told(x);
        Due.is("order", x.order(0, 5), NONE);
        x.build(1, 0);
        Due.told(x);
    }

    private static void sees() {
        CutTrees x = Make.of(0, 0, 10, 0, 20, 10, 30, 20);
        Due.is("across", x.sees(5, 5, 5, -5), 0);
        Due.is("across, the other way", x.sees(5, -5, 5, 5), 0);
        Due.is("beside", x.sees(11, 5, 11, -5), 1);
        Due.is("through the end", x.sees(10, 5, 10, -5), 0);
        Due.is("up to it", x.sees(5, 5, 5, 0), 0);
        Due.is("from it", x.sees(5, 0, 5, 5), 0);
        Due.is("not up to it", x.sees(5, 5, 5, 1), 1);
        Due.is("along, ahead of it", x.sees(-9, 0, -1, 0), 1);
        Due.is("along, behind it", x.sees(11, 0, 19, 0), 1);
        Due.is("along, up to its end", x.sees(11, 0, 10, 0), 0);
        Due.is("along, within", x.sees(3, 0, 4, 0), 0);
        Due.is("along, over all", x.sees(-5, 0, 15, 0), 0);
        Due.is("a place on it", x.sees(25, 15, 25, 15), 0);
        Due.is("a place within its frame", x.sees(25, 16, 25, 16), 1);
        Due.is("its corner", x.sees(20, 10, 20, 10), 0);
        Due.is("its line", x.sees(19, 9, 19, 9), 1);
        Due.is("along the slant, behind it", x.sees(31, 21, 40, 30), 1);
        Due.is("beside the slant", x.sees(20, 11, 29, 20), 1);
        Due.is("far", x.sees(-1000, -1000, 1000, 1000), 0);
        Due.is("far", x.sees(-1000, 1000, 1000, 1000), 1);
        CutTrees narrow = Make.of(-1000, -1000, 1000, 999);
        Due.is("missed by little", narrow.sees(-999, -999, 1000, 1000), 1);
        Due.is("hit by little", narrow.sees(-999, -999, 1000, 999), 0);
        for (int wrong : WRONG) {
            Due.is("x0", x.sees(wrong, 0, 0, 0), NONE);
            Due.is("y0", x.sees(0, wrong, 0, 0), NONE);
            Due.is("x1", x.sees(0, 0, wrong, 0), NONE);
            Due.is("y1", x.sees(0, 0, 0, wrong), NONE);
        }
    }

    private static void ray() {
        CutTrees x = Make.of(10, -5, 10, 5, 4, 5, 4, -5, 0, 0, 2, 0);
        Due.is("all", x.ray(-1, 0, 1, 0), 3);
        Due.met(x, 2, 1, 1, 1, 5, 1, 0, 11, 1);
        Due.is("longer steps", x.ray(-1, 0, 10, 0), 3);
        Due.met(x, 2, 1, 10, 1, 1, 2, 0, 11, 10);
        Due.is("from within", x.ray(1, 0, 1, 0), 3);
        Due.met(x, 2, 0, 1, 1, 3, 1, 0, 9, 1);
        Due.is("from its end on", x.ray(2, 0, 7, 0), 3);
        Due.met(x, 2, 0, 1, 1, 2, 7, 0, 8, 7);
        Due.is("from its end back", x.ray(0, 0, 1, 0), 3);
        Due.is("back", x.ray(3, 0, -2, 0), 1);
        Due.met(x, 2, 1, 2);
        Due.is("along a piece's line, away", x.ray(4, 6, 0, 1), 0);
        Due.met(x);
        Due.is("along a piece's line, to it", x.ray(4, 9, 0, -8), 1);
        Due.met(x, 1, 1, 2);
        Due.is("to a corner", x.ray(3, 4, 1, 1), 1);
        Due.met(x, 1, 1, 1);
        Due.is("beside a corner", x.ray(3, 5, 1, 1), 0);
        Due.is("beside, along", x.ray(-1, 1, 0, 1), 0);
        CutTrees alike = Make.of(5, 5, 15, 5, 10, 0, 10, 10, 20, 10, 0, 0, 9, 4, 11, 6);
        Due.is("all at one place", alike.ray(10, 0, 0, 1000), 4);
        Due.met(alike, 1, 0, 1, 0, 1, 200, 2, 1, 200, 3, 1, 200);
        CutTrees far = Make.of(1000, -1000, -1000, 1000, -1000, -999, 999, 1000);
        Due.is("far", far.ray(-1000, -1000, 1000, 999), 1);
        Due.met(far, 0, 2000, 1999);
        Due.is("farthest", far.ray(1000, 1000, -1000, -999), 2);
        Due.met(far, 1, 1, 1, 0, 2000, 1999);
        refusedRays(far);
    }

    private static void refusedRays(CutTrees far) {
        for (int wrong : WRONG) {
            Due.is("x", far.ray(wrong, 0, 1, 1), NONE);
            Due.is("y", far.ray(0, wrong, 1, 1), NONE);
            Due.is("dx", far.ray(0, 0, wrong, 1), NONE);
            Due.is("dy", far.ray(0, 0, 1, wrong), NONE);
        }
        Due.is("both 0", far.ray(0, 0, 0, 0), NONE);
        Due.met(far, 1, 1, 1, 0, 2000, 1999);
    }

    private static void met() {
        CutTrees x = Make.of(0, 0, 10, 0, 5, -5, 5, 5);
        x.ray(20, 0, -3, 0);
        Due.met(x, 0, 10, 3, 1, 5, 1);
        x.drop();
        x.drop();
        Due.met(x, 0, 10, 3, 1, 5, 1);
        x.piece(1, 1, 2, 2);
        x.build(0, 0);
        Due.met(x, 0, 10, 3, 1, 5, 1);
        int[] noWhat = {LEAST_INT, -1, 3, LARGEST_INT};
        for (int wrong : noWhat) {
            Due.is("met", x.met(0, wrong), NONE);
        }
        Due.is("met", x.met(LEAST_INT, 0), NONE);
        Due.is("met", x.met(LARGEST_INT, 0), NONE);
        Due.is("ray", x.ray(20, 0, 1, 0), 0);
        Due.met(x);
    }

    private static void least() {
        Due.is("cut or not", Make.of(5, -1, 5, 1, 0, 3, 10, 3).least(), 2);
        Due.is("one line", Make.of(0, 0, 1, 0, 5, 0, 3, 0, 0, 0, 1, 0).least(), 3);
        Due.is("all crossing", Make.tangents(0, 5).least(), 15);
        Due.is("star", Make.star(5).least(), 9);
        Due.is("too many", Make.tangents(0, 6).least(), NONE);
        Due.is("too many", Make.level(6).least(), NONE);
        // Three in a ring, line 0 cuts piece 1, that 2, that 0: once a line is taken, the next one's
        // piece is cut; taking the next one's line then cuts again, taking the other one's does not.
        CutTrees ring = Make.of(0, 0, 10, 0, 12, -2, 7, 8, 8, 12, 1, 1);
        Due.is("a ring", ring.build(0, 0), 5);
        Due.is("a ring", ring.least(), 4);
        Due.is("a ring", ring.sum(), 3 * 5 + 3 * 4);
        CutTrees level = Make.level(5);
        Due.is("level", level.least(), 5);
        level.piece(100, 0, 100, 1);
        Due.is("six", level.least(), NONE);
        level.drop();
        Due.is("five again", level.least(), 5);
    }

    private static void sum() {
        Due.is("cut or not", Make.of(5, -1, 5, 1, 0, 3, 10, 3).sum(), 5);
        Due.is("one line", Make.of(0, 0, 1, 0, 5, 0, 3, 0, 0, 0, 1, 0).sum(), 18);
        Due.is("one", Make.level(1).sum(), 1);
        Due.is("all crossing", Make.tangents(0, 6).sum(), 720 * 21);
        Due.is("star", Make.star(6).sum(), 720 * 11);
        Due.is("level", Make.level(6).sum(), 720 * 6);
        Due.is("too many", Make.level(7).sum(), NONE);
        Due.is("too many", Make.most().sum(), NONE);
    }

    private static void mostParts() {
        CutTrees x = Make.most();
        for (int rule = 0; rule < 4; rule++) {
            Due.is("build", x.build(rule, 77), 300);
            Due.counts(x, 24, 300, 300, 301);
            Due.is("cuts", x.count(5), 276);
            Due.is("order", x.order(1, 1), 300);
        }
        boolean[] told = new boolean[300];
        for (int k = 0; k < 300; k++) {
            int part = x.told(k);
            Due.is("told once", part >= 0 && part < 300 && !told[part] ? 1 : 0, 1);
            told[part] = true;
        }
    }
}
