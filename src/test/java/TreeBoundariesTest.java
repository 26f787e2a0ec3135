/** Boundary cases of promises 6 to 8, each sentence of the document in a test of its own. */
public final class TreeBoundariesTest {
    private static final int NONE = CutTrees.NONE;
    private static final int LEAST_INT = Integer.MIN_VALUE;
    private static final int LARGEST_INT = Integer.MAX_VALUE;

    public static void main(String[] args) {
        countOfAnotherWhat();
        countWithoutTree();
        countOfATreeOfNone();
        longestWayDown();
        howManyCuts();
        noSuchKnot();
        noSuchWhatOfAKnot();
        knotWithBothWrong();
        topKnot();
        firstAndLastLeaf();
        knotWithAllParts();
        noSuchPart();
        noSuchWhatOfAPart();
        partWithBothWrong();
        wholePart();
        cutAtZero();
        withoutCommonDivisor();
        denominatorAboveZero();
        largeFractions();
        lastPart();
        Due.end();
    }

    private static void countOfAnotherWhat() {
        Due.sentence("Promise 6, NONE for another what");
        int[] another = {LEAST_INT, -2, -1, 6, 7, 256, 65_536, LARGEST_INT};
        CutTrees none = new CutTrees();
        CutTrees x = Make.toldCross();
        for (int what : another) {
            Due.is("count(" + what + ") of a new one", none.count(what), NONE);
            Due.is("count(" + what + ")", x.count(what), NONE);
        }
        Due.stillToldCross(x);
    }

    private static void countWithoutTree() {
        Due.sentence("Promise 6, of the TREE (0 without)");
        CutTrees x = Make.most();
        Due.counts(x, 24, 0, 0, 0, 0, 0);
        Due.is("build", x.build(0, 0), 300);
        Due.counts(x, 24, 300, 300, 301, 24, 276);
        x.drop();
        Due.counts(x, 23, 0, 0, 0, 0, 0);
    }

    private static void countOfATreeOfNone() {
        Due.sentence("Promise 6, LEAVES of a TREE of none");
        CutTrees x = new CutTrees();
        Due.counts(x, 0, 0, 0, 0, 0, 0);
        x.build(0, 0);
        Due.counts(x, 0, 0, 0, 1, 0, 0);
    }

    private static void longestWayDown() {
        Due.sentence("Promise 6, how many KNOTS the longest way down has");
        CutTrees chain = Make.level(24);
        chain.build(0, 0);
        Due.is("all on one way", chain.count(4), 24);
        CutTrees line = Make.inLine(24);
        line.build(0, 0);
        Due.is("all on one line", line.count(4), 1);
        CutTrees frontAlone = Make.of(0, 0, 10, 0, 0, 5, 10, 5);
        frontAlone.build(0, 0);
        Due.is("in front", frontAlone.count(4), 2);
        CutTrees backAlone = Make.of(0, 5, 10, 5, 0, 0, 10, 0);
        backAlone.build(0, 0);
        Due.is("in back", backAlone.count(4), 2);
        CutTrees frontLonger = Make.of(0, 0, 10, 0, 0, 1, 10, 1, 0, 2, 10, 2, 0, -1, 10, -1);
        frontLonger.build(0, 0);
        Due.is("longer in front", frontLonger.count(4), 3);
        CutTrees backLonger = Make.of(0, 0, 10, 0, 0, -1, 10, -1, 0, -2, 10, -2, 0, 1, 10, 1);
        backLonger.build(0, 0);
        Due.is("longer in back", backLonger.count(4), 3);
        chain.build(3, 0);
        Due.is("a shorter one behind a longer one", chain.count(4), 5);
    }

    private static void howManyCuts() {
        Due.sentence("Promise 6, by how many cuts");
        CutTrees level = Make.level(24);
        level.build(0, 0);
        Due.is("none", level.count(5), 0);
        CutTrees most = Make.most();
        most.build(0, 0);
        Due.is("all", most.count(5), 276);
        CutTrees cross = Make.toldCross();
        Due.is("one", cross.count(5), 1);
        cross.piece(100, 100, 200, 200);
        Due.is("without a TREE", cross.count(5), 0);
    }

    private static void noSuchKnot() {
        Due.sentence("Promise 7, IndexOutOfBoundsException: no such KNOT");
        CutTrees x = Make.toldCross();
        int[] noKnot = {LEAST_INT, -2, -1, 3, 4, 299, 300, 301, 65_536, LARGEST_INT};
        for (int wrong : noKnot) {
            for (int what = 0; what <= 5; what++) {
                Due.is("knot(" + wrong + ", " + what + ") throws", Due.thrownByKnot(x, wrong, what), Due.INDEX);
            }
        }
        Due.stillToldCross(x);
        CutTrees without = Make.level(3);
        Due.is("without a TREE", Due.thrownByKnot(without, 0, 0), Due.INDEX);
        without.build(0, 0);
        Due.is("the last one", Due.thrownByKnot(without, 2, 0), Due.NOTHING);
        without.drop();
        Due.is("the TREE is gone", Due.thrownByKnot(without, 0, 0), Due.INDEX);
        without.build(0, 0);
        Due.is("a smaller TREE", Due.thrownByKnot(without, 2, 0), Due.INDEX);
    }

    private static void noSuchWhatOfAKnot() {
        Due.sentence("Promise 7, NoSuchElementException: no such what");
        CutTrees x = Make.toldCross();
        int[] noWhat = {LEAST_INT, -1, 6, 7, 8, 256, LARGEST_INT};
        for (int wrong : noWhat) {
            for (int knot = 0; knot < 3; knot++) {
                Due.is("knot(" + knot + ", " + wrong + ") throws", Due.thrownByKnot(x, knot, wrong), Due.ELEMENT);
            }
        }
        Due.stillToldCross(x);
    }

    private static void knotWithBothWrong() {
        Due.sentence("Promise 7, neither such a KNOT nor such a what");
        CutTrees x = Make.toldCross();
        Due.is("knot(-1, -1) throws", Due.thrownByKnot(x, -1, -1), Due.INDEX);
        Due.is("knot(3, 6) throws", Due.thrownByKnot(x, 3, 6), Due.INDEX);
        Due.is("without a TREE", Due.thrownByKnot(new CutTrees(), 0, 6), Due.INDEX);
    }

    private static void topKnot() {
        Due.sentence("Promise 7, NONE: it is the top");
        CutTrees x = Make.most();
        for (int rule = 0; rule <= 3; rule++) {
            x.build(rule, 5);
            Due.is("knot(0, 5)", x.knot(0, 5), NONE);
            for (int knot = 1; knot < 300; knot++) {
                int above = x.knot(knot, 5);
                boolean hangs = above >= 0 && above < knot
                    && (x.knot(above, 3) == knot) != (x.knot(above, 4) == knot);
                Due.is("knot " + knot + " hangs below the one it names", hangs ? 1 : 0, 1);
            }
        }
    }

    private static void firstAndLastLeaf() {
        Due.sentence("Promise 7, -2 less a LEAF's");
        CutTrees one = Make.of(0, 0, 1, 0);
        one.build(0, 0);
        Due.knot(one, 0, 0, 1, 0, -2, -3, NONE);
        CutTrees most = Make.most();
        most.build(0, 0);
        Due.knot(most, 23, 23, 1, 23, -2, -3, 22);
        Due.knot(most, 299, 23, 1, 299, -301, -302);
    }

    private static void knotWithAllParts() {
        Due.sentence("Promise 7, how many PARTS, its first one");
        CutTrees line = Make.inLine(24);
        line.build(0, 0);
        Due.knot(line, 0, 0, 24, 0);
        CutTrees x = Make.of(0, 0, 10, 0, 20, 0, 30, 0, 0, 5, 10, 5, 0, -5, 10, -5, 20, -5, 30, -5);
        Due.is("build", x.build(0, 0), 3);
        Due.knot(x, 0, 0, 2, 0);
        Due.knot(x, 1, 2, 1, 2);
        Due.knot(x, 2, 3, 2, 3);
    }

    private static void noSuchPart() {
        Due.sentence("Promise 8, IndexOutOfBoundsException: no such PART");
        CutTrees x = Make.toldCross();
        int[] noPart = {LEAST_INT, -2, -1, 3, 4, 299, 300, 301, 65_536, LARGEST_INT};
        for (int wrong : noPart) {
            for (int what = 0; what <= 7; what++) {
                Due.is("part(" + wrong + ", " + what + ") throws", Due.thrownByPart(x, wrong, what), Due.INDEX);
            }
        }
        Due.stillToldCross(x);
        CutTrees without = Make.level(3);
        Due.is("without a TREE", Due.thrownByPart(without, 0, 0), Due.INDEX);
        without.build(0, 0);
        Due.is("the last one", Due.thrownByPart(without, 2, 0), Due.NOTHING);
        without.drop();
        Due.is("the TREE is gone", Due.thrownByPart(without, 0, 0), Due.INDEX);
        without.build(0, 0);
        Due.is("a smaller TREE", Due.thrownByPart(without, 2, 0), Due.INDEX);
    }

    private static void noSuchWhatOfAPart() {
        Due.sentence("Promise 8, NoSuchElementException: no such what");
        CutTrees x = Make.toldCross();
        int[] noWhat = {LEAST_INT, -1, 8, 9, 256, LARGEST_INT};
        for (int wrong : noWhat) {
            for (int part = 0; part < 3; part++) {
                Due.is("part(" + part + ", " + wrong + ") throws", Due.thrownByPart(x, part, wrong), Due.ELEMENT);
            }
        }
        Due.stillToldCross(x);
    }

    private static void partWithBothWrong() {
        Due.sentence("Promise 8, neither such a PART nor such a what");
        CutTrees x = Make.toldCross();
        Due.is("part(-1, -1) throws", Due.thrownByPart(x, -1, -1), Due.INDEX);
        Due.is("part(3, 8) throws", Due.thrownByPart(x, 3, 8), Due.INDEX);
        Due.is("without a TREE", Due.thrownByPart(new CutTrees(), 0, 8), Due.INDEX);
    }

    private static void wholePart() {
        Due.sentence("Promise 8, the ends of a PIECE that is not cut");
        CutTrees x = Make.of(-1000, 1000, 1000, -1000);
        x.build(0, 0);
        Due.part(x, 0, 0, -1000, 1000, 1, 1000, -1000, 1, 0);
        CutTrees zero = Make.of(0, 0, 0, -8);
        zero.build(0, 0);
        Due.part(zero, 0, 0, 0, 0, 1, 0, -8, 1, 0);
    }

    private static void cutAtZero() {
        Due.sentence("Terms 1, X and Y that are 0");
        CutTrees x = Make.of(-7, 0, 11, 0, -3, -6, 2, 4, 0, -6, 0, 9);
        Due.is("build", x.build(0, 0), 5);
        Due.part(x, 1, 1, 0, 0, 1, 2, 4, 1);
        Due.part(x, 3, 1, -3, -6, 1, 0, 0, 1);
        CutTrees both = Make.of(-7, 0, 11, 0, 0, -6, 0, 9);
        Due.is("build", both.build(0, 0), 3);
        Due.part(both, 1, 1, 0, 0, 1, 0, 9, 1, 1);
        Due.part(both, 2, 1, 0, -6, 1, 0, 0, 1, 2);
    }

    private static void withoutCommonDivisor() {
        Due.sentence("Terms 1, X, Y, W without a common divisor");
        CutTrees whole = Make.of(-1000, 600, 1000, 600, 400, -1000, 400, 1000);
        whole.build(0, 0);
        Due.part(whole, 1, 1, 400, 600, 1, 400, 1000, 1);
        CutTrees half = Make.of(0, 0, 10, 0, 0, -2, 5, 2);
        half.build(0, 0);
        Due.part(half, 1, 1, 5, 0, 2, 5, 2, 1);
        // Any two of 6, 10 and 15 share a divisor, all three of them do not.
        CutTrees twoOfThree = Make.of(-1, -4, 2, 6, -1, 3, 2, -2);
        twoOfThree.build(0, 0);
        Due.part(twoOfThree, 1, 1, -1, 3, 1, 6, 10, 15);
        Due.part(twoOfThree, 2, 1, 6, 10, 15, 2, -2, 1);
    }

    private static void denominatorAboveZero() {
        Due.sentence("Terms 1, W above 0");
        int[][] lines = {{-3, 0, 4, 0}, {4, 0, -3, 0}};
        int[][] others = {{-2, -1, -1, 2}, {-1, 2, -2, -1}};
        for (int[] line : lines) {
            for (int[] other : others) {
                CutTrees x = Make.of(line[0], line[1], line[2], line[3], other[0], other[1], other[2], other[3]);
                Due.is("build", x.build(0, 0), 3);
                int cutIsSecond = x.part(1, 3) == 1 ? 3 : 0;
                Due.is("X", x.part(1, 1 + cutIsSecond), -5);
                Due.is("Y", x.part(1, 2 + cutIsSecond), 0);
                Due.is("W", x.part(1, 3 + cutIsSecond), 3);
            }
        }
    }

    // Beyond 32 bits: the first in what is reckoned on the way, the others in X and Y themselves.
    private static void largeFractions() {
        Due.sentence("Terms 1, fractions of PIECES as long and as far as may be");
        CutTrees x = Make.of(-1000, -1000, 1000, 999, -999, 1000, 1000, -1000);
        x.build(0, 0);
        Due.part(x, 1, 1, -999, 1000, 1, 3_999_000, -1000, 7_996_001, 1);
        Due.part(x, 2, 1, 3_999_000, -1000, 7_996_001, 1000, -1000, 1, 2);
        CutTrees high = Make.of(-1000, -1000, 1000, 999, 999, 1000, 1000, -1000);
        high.build(0, 0);
        Due.part(high, 1, 1, 999, 1000, 1, 3_998_001_000L, 3_994_001_000L, 4_001_999, 1);
        CutTrees low = Make.of(1000, 1000, -1000, -999, -999, -1000, -1000, 1000);
        low.build(0, 0);
        Due.part(low, 1, 1, -999, -1000, 1, -3_998_001_000L, -3_994_001_000L, 4_001_999, 1);
    }

    private static void lastPart() {
        Due.sentence("Promise 8, its PIECE, its KNOT");
        CutTrees x = Make.most();
        for (int rule = 0; rule <= 3; rule++) {
            x.build(rule, 3);
            for (int part = 0; part < 300; part++) {
                Due.is("part(" + part + ", 7)", x.part(part, 7), part);
                Due.is("part(" + part + ", 0)", x.part(part, 0), x.knot(part, 0));
            }
            Due.is("part(300, 0) throws", Due.thrownByPart(x, 300, 0), Due.INDEX);
            Due.is("knot(300, 0) throws", Due.thrownByKnot(x, 300, 0), Due.INDEX);
        }
        CutTrees line = Make.inLine(24);
        line.build(0, 0);
        Due.part(line, 23, 23, 230, 0, 1, 235, 0, 1, 0);
        Due.is("part(24, 0) throws", Due.thrownByPart(line, 24, 0), Due.INDEX);
    }
}
