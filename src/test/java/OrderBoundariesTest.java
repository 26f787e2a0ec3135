/** Boundary cases of promises 9 to 11, each sentence of the document in a test of its own. */
public final class OrderBoundariesTest {
    private static final int NONE = CutTrees.NONE;
    private static final int LEAST_INT = Integer.MIN_VALUE;
    private static final int LARGEST_INT = Integer.MAX_VALUE;

    public static void main(String[] args) {
        whereWithoutTree();
        whereBeyond();
        whereAtTheLimit();
        whereInATreeOfNone();
        whereBesideALine();
        whereOnSeveralLines();
        firstAndLastLeaf();
        orderWithoutTree();
        orderBeyond();
        orderAtTheLimit();
        orderOfNone();
        orderFromALine();
        orderFromBesideALine();
        orderOfMost();
        toldBeforeAnyOrder();
        toldOutsideTheRow();
        toldOfTheLatest();
        toldAfterARefusedOrder();
        toldOfAnotherTree();
        toldOfTheSameTree();
        toldOfAShorterRow();
        Due.end();
    }

    private static void whereWithoutTree() {
        Due.sentence("Promise 9, NONE: no TREE");
        CutTrees x = Make.level(3);
        Due.is("never built", x.where(0, 1), NONE);
        x.build(0, 0);
        Due.is("built", x.where(0, 1), -3);
        x.drop();
        Due.is("gone by drop", x.where(0, 1), NONE);
        x.build(0, 0);
        x.piece(0, 2, 10, 2);
        Due.is("gone by piece", x.where(0, 1), NONE);
        Due.is("beyond too", x.where(1001, 1), NONE);
    }

    private static void whereBeyond() {
        Due.sentence("Promise 9, NONE: beyond");
        CutTrees x = Make.toldCross();
        CutTrees ofNone = new CutTrees();
        ofNone.build(0, 0);
        for (int wrong : Due.BEYOND) {
            Due.is("x " + wrong, x.where(wrong, 0), NONE);
            Due.is("y " + wrong, x.where(0, wrong), NONE);
            Due.is("both " + wrong, x.where(wrong, wrong), NONE);
            Due.is("in a TREE of none " + wrong, ofNone.where(wrong, 0), NONE);
        }
    }

    private static void whereAtTheLimit() {
        Due.sentence("Promise 9, -1000 .. 1000");
        CutTrees x = Make.toldCross();
        Due.is("where", x.where(-1000, 1000), 0);
        Due.is("where", x.where(1000, 1000), 1);
        Due.is("where", x.where(-1000, -1000), 2);
        Due.is("where", x.where(1000, -1000), 3);
        Due.is("where", x.where(1000, 0), -2);
        Due.is("where", x.where(-1000, 0), -2);
        Due.is("where", x.where(5, 1000), -3);
        Due.is("where", x.where(5, -1000), -4);
    }

    private static void whereInATreeOfNone() {
        Due.sentence("Promise 9, the only LEAF");
        CutTrees x = new CutTrees();
        x.build(2, 8);
        Due.is("where", x.where(0, 0), 0);
        Due.is("where", x.where(-1000, 1000), 0);
    }

    private static void whereBesideALine() {
        Due.sentence("Promise 9, on a line or barely beside it");
        CutTrees x = Make.of(-1000, -1000, 1000, 999);
        x.build(0, 0);
        Due.is("a corner", x.where(-1000, -1000), -2);
        Due.is("the other corner", x.where(1000, 999), -2);
        Due.is("in front by 1", x.where(-999, -999), 0);
        Due.is("in back by 1", x.where(999, 998), 1);
        Due.is("in front by most", x.where(-1000, 1000), 0);
        Due.is("in back by most", x.where(1000, -1000), 1);
    }

    private static void whereOnSeveralLines() {
        Due.sentence("Promise 9, the first KNOT, from above, on whose line it is");
        CutTrees star = Make.star(24);
        star.build(0, 0);
        Due.is("on all lines", star.where(0, 0), -2);
        Due.is("on the top one alone", star.where(-1, 0), -2);
        Due.is("on line 1 in front", star.where(10, 1), -3);
        Due.is("on line 1 in back", star.where(-10, -1), -2 - 24);
        CutTrees line = Make.inLine(24);
        line.build(0, 0);
        Due.is("between two PIECES on it", line.where(7, 0), -2);
        CutTrees upper = Make.of(0, 0, 10, 0, 5, -5, 5, 5, 0, 5, 10, 5);
        upper.build(0, 0);
        Due.is("on lines 1 and 2, 1 is above", upper.where(5, 5), -3);
    }

    private static void firstAndLastLeaf() {
        Due.sentence("Promise 9, a LEAF's number");
        CutTrees x = Make.most();
        x.build(0, 0);
        Due.is("in front of all", x.where(0, 1000), 0);
        Due.is("in back of all", x.where(0, -1000), 300);
        CutTrees chain = Make.level(24);
        chain.build(0, 0);
        for (int i = 0; i < 24; i++) {
            Due.is("on line " + i, chain.where(-1000, i), -2 - i);
        }
        Due.is("the longest way down", chain.where(0, 24), 0);
        Due.is("the shortest way down", chain.where(0, -1), 24);
    }

    private static void orderWithoutTree() {
        Due.sentence("Promise 10, NONE: no TREE");
        CutTrees x = Make.level(3);
        Due.is("never built", x.order(0, 0), NONE);
        Due.told(x);
        x.build(0, 0);
        Due.is("built", x.order(0, 0), 3);
        x.drop();
        Due.is("gone by drop", x.order(0, 0), NONE);
        Due.told(x);
        x.build(0, 0);
        x.piece(0, 2, 10, 2);
        Due.is("gone by piece", x.order(0, 0), NONE);
        Due.told(x);
    }

    private static void orderBeyond() {
        Due.sentence("Promise 10, NONE: beyond");
        CutTrees x = Make.toldCross();
        CutTrees ofNone = new CutTrees();
        ofNone.build(0, 0);
        for (int wrong : Due.BEYOND) {
            Due.is("x " + wrong, x.order(wrong, 0), NONE);
            Due.is("y " + wrong, x.order(0, wrong), NONE);
            Due.is("both " + wrong, x.order(wrong, wrong), NONE);
            Due.is("of a TREE of none " + wrong, ofNone.order(0, wrong), NONE);
        }
        Due.stillToldCross(x);
    }

    private static void orderAtTheLimit() {
        Due.sentence("Promise 10, -1000 .. 1000");
        CutTrees x = Make.toldCross();
        Due.is("order", x.order(-1000, 1000), 3);
        Due.told(x, 2, 0, 1);
        Due.is("order", x.order(1000, -1000), 3);
        Due.told(x, 1, 0, 2);
        Due.is("order", x.order(1000, 1000), 3);
        Due.told(x, 2, 0, 1);
        Due.is("order", x.order(-1000, -1000), 3);
        Due.told(x, 1, 0, 2);
    }

    private static void orderOfNone() {
        Due.sentence("Promise 10, how many PARTS, of none");
        CutTrees x = new CutTrees();
        x.build(0, 0);
        Due.is("order", x.order(0, 0), 0);
        Due.told(x);
        Due.is("told(0)", x.told(0), NONE);
    }

    private static void orderFromALine() {
        Due.sentence("Terms 3, ON: the FRONT tree, its PARTS, the BACK tree");
        CutTrees x = Make.of(0, 0, 10, 0, 0, 5, 10, 5, 0, -5, 10, -5, 20, 0, 30, 0);
        x.build(0, 0);
        Due.is("on the PIECE", x.order(5, 0), 4);
        Due.told(x, 2, 0, 1, 3);
        Due.is("on its line", x.order(1000, 0), 4);
        Due.told(x, 2, 0, 1, 3);
        Due.is("on its line", x.order(-1000, 0), 4);
        Due.told(x, 2, 0, 1, 3);
        CutTrees star = Make.star(3);
        star.build(0, 0);
        // 0 with 1, 2 in front and 3, 4 in back; line 1 has the rest of the front ones in front of
        // it, line 1 below has the rest in back.
        Due.knot(star, 1, 1, 1, 1, 2, -4, 0);
        Due.knot(star, 3, 1, 1, 3, -5, 4, 0);
        Due.is("on all lines", star.order(0, 0), 5);
        Due.told(star, 2, 1, 0, 3, 4);
    }

    private static void orderFromBesideALine() {
        Due.sentence("Terms 3, in FRONT, in BACK, by 1");
        CutTrees x = Make.of(-1000, -1000, 1000, 999, 0, 500, 1, 500, 0, -500, 1, -500);
        x.build(0, 0);
        Due.is("in front", x.order(-999, -999), 3);
        Due.told(x, 2, 0, 1);
        Due.is("in back", x.order(999, 998), 3);
        Due.told(x, 1, 0, 2);
        Due.is("on", x.order(1000, 999), 3);
        Due.told(x, 1, 0, 2);
    }

    private static void orderOfMost() {
        Due.sentence("Promise 10, all PARTS of the largest TREE");
        CutTrees x = Make.most();
        for (int rule = 0; rule <= 3; rule++) {
            x.build(rule, 6);
            Due.is("order", x.order(1, 1), 300);
            boolean[] seen = new boolean[300];
            for (int k = 0; k < 300; k++) {
                int part = x.told(k);
                boolean isNew = part >= 0 && part < 300 && !seen[part];
                Due.is("told(" + k + ") is a PART not told yet", isNew ? 1 : 0, 1);
                if (isNew) {
                    seen[part] = true;
                }
            }
            Due.is("told(300)", x.told(300), NONE);
        }
        CutTrees chain = Make.level(24);
        chain.build(0, 0);
        Due.is("order", chain.order(0, 1000), 24);
        Due.is("told(0)", chain.told(0), 0);
        Due.is("told(23)", chain.told(23), 23);
        Due.is("told(24)", chain.told(24), NONE);
    }

    private static void toldBeforeAnyOrder() {
        Due.sentence("Promise 11, NONE if there is none such, ahead of any order()");
        CutTrees x = new CutTrees();
        Due.told(x);
        x.piece(0, 0, 10, 0);
        Due.told(x);
        x.build(0, 0);
        Due.told(x);
        x.where(0, 0);
        Due.told(x);
    }

    private static void toldOutsideTheRow() {
        Due.sentence("Promise 11, NONE if there is none such, too small or too large a k");
        CutTrees x = Make.toldCross();
        int[] wrong = {LEAST_INT, -2, -1, 3, 4, 299, 300, 301, 65_536, LARGEST_INT};
        for (int k : wrong) {
            Due.is("told(" + k + ")", x.told(k), NONE);
        }
        Due.stillToldCross(x);
    }

    private static void toldOfTheLatest() {
        Due.sentence("Promise 11, the latest order()");
        CutTrees x = Make.toldCross();
        x.order(0, -5);
        Due.told(x, 1, 0, 2);
        x.order(0, 5);
        Due.told(x, 2, 0, 1);
        Due.told(x, 2, 0, 1);
    }

    private static void toldAfterARefusedOrder() {
        Due.sentence("Promise 11, that was not NONE");
        CutTrees x = Make.toldCross();
        Due.is("order", x.order(0, -1001), NONE);
        Due.told(x, 2, 0, 1);
        x.order(0, -5);
        Due.is("order", x.order(1001, 5), NONE);
        Due.told(x, 1, 0, 2);
    }

    private static void toldOfAnotherTree() {
        Due.sentence("Promise 11, none such when the TREE is another one");
        for (int rule = 0; rule <= 3; rule++) {
            CutTrees x = Make.toldCross();
            Due.is("build", x.build(rule, 0), 3);
            Due.told(x);
            Due.is("order", x.order(1001, 0), NONE);
            Due.told(x);
            Due.is("order", x.order(0, 5), 3);
            Due.told(x, 2, 0, 1);
        }
        CutTrees come = Make.toldCross();
        come.piece(50, 50, 60, 60);
        Due.told(come);
        come.drop();
        Due.told(come);
        come.build(0, 0);
        Due.told(come);
        CutTrees gone = Make.toldCross();
        gone.drop();
        Due.told(gone);
        gone.build(0, 0);
        Due.told(gone);
    }

    private static void toldOfTheSameTree() {
        Due.sentence("Promise 11, calls that leave the TREE leave what is told");
        CutTrees x = Make.toldCross();
        x.where(0, -5);
        x.sees(0, -5, 9, 9);
        x.ray(0, -5, 1, 1);
        x.met(0, 0);
        x.least();
        x.sum();
        x.count(2);
        x.look(0, 4);
        x.build(4, 0);
        x.piece(0, 0, 0, 0);
        x.piece(0, 0, 0, 1001);
        Due.thrownByLook(x, 2, 0);
        Due.thrownByKnot(x, 0, 6);
        Due.thrownByPart(x, 3, 0);
        Due.stillToldCross(x);
        CutTrees ofNone = new CutTrees();
        ofNone.build(0, 0);
        Due.is("order", ofNone.order(0, 0), 0);
        ofNone.drop();
        Due.is("order", ofNone.order(0, 0), 0);
    }

    private static void toldOfAShorterRow() {
        Due.sentence("Promise 11, the k-th of an order() that is shorter than one before it");
        CutTrees x = Make.toldCross();
        x.drop();
        x.build(0, 0);
        Due.is("order", x.order(0, 5), 1);
        Due.told(x, 0);
        Due.is("told(2)", x.told(2), NONE);
    }
}
