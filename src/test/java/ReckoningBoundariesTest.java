/** Boundary cases of promises 15 and 16, each sentence of the document in a test of its own. */
public final class ReckoningBoundariesTest {
    private static final int NONE = CutTrees.NONE;

    public static void main(String[] args) {
        leastOfTooMany();
        leastOfNone();
        leastOfFive();
        leastTakesAnyPart();
        leastChangesNothing();
        sumOfTooMany();
        sumOfNone();
        sumOfSix();
        sumOfPiecesAlike();
        sumIsOverAllOrders();
        sumChangesNothing();
        Due.end();
    }

    private static void leastOfTooMany() {
        Due.sentence("Promise 15, NONE: there are more than 5 PIECES");
        CutTrees x = new CutTrees();
        for (int many = 0; many <= 24; many++) {
            Due.is("least() of " + many, x.least(), many > 5 ? NONE : many);
            x.piece(0, many, 10, many);
        }
        for (int many = 23; many >= 0; many--) {
            Due.is("drop()", x.drop(), many);
            Due.is("least() of " + many, x.least(), many > 5 ? NONE : many);
        }
        Due.is("6 on one line", Make.inLine(6).least(), NONE);
    }

    private static void leastOfNone() {
        Due.sentence("Terms 4, LEAST of none and of one");
        CutTrees x = new CutTrees();
        Due.is("least()", x.least(), 0);
        x.piece(-1000, -1000, 1000, 1000);
        Due.is("least()", x.least(), 1);
    }

    private static void leastOfFive() {
        Due.sentence("Terms 4, for at most 5 PIECES");
        Due.is("any two cross", Make.tangents(0, 5).least(), 15);
        Due.is("all at one place", Make.star(5).least(), 9);
        Due.is("none crosses", Make.level(5).least(), 5);
        Due.is("all on one line", Make.inLine(5).least(), 5);
        Due.is("any two of 4 cross", Make.tangents(0, 4).least(), 10);
    }

    // Line 0 cuts the four others, each of whose lines cuts none: only the last may have line 0.
    private static void leastTakesAnyPart() {
        Due.sentence("Terms 4, the line of any PART of the row");
        CutTrees x = Make.of(5, -9, 5, -8, 0, 0, 10, 0, 0, 3, 10, 3, 0, 6, 10, 6, 0, 9, 10, 9);
        Due.is("the first PART", x.build(0, 0), 9);
        Due.is("least()", x.least(), 5);
    }

    private static void leastChangesNothing() {
        Due.sentence("Promise 15, the TREE, what is told and what is met stay");
        CutTrees x = Make.toldCross();
        Due.is("ray", x.ray(20, 0, -3, 0), 2);
        Due.is("least()", x.least(), 3);
        Due.stillToldCross(x);
        Due.part(x, 1, 1, 5, 0, 1, 5, 5, 1, 1);
        Due.met(x, 0, 10, 3, 1, 5, 1);
        CutTrees many = Make.level(6);
        many.build(0, 0);
        Due.is("order", many.order(0, 1000), 6);
        Due.is("least()", many.least(), NONE);
        Due.counts(many, 6, 6, 6, 7, 6, 0);
        Due.told(many, 0, 1, 2, 3, 4, 5);
        CutTrees without = Make.level(2);
        without.least();
        Due.noTree(without, 2);
    }

    private static void sumOfTooMany() {
        Due.sentence("Promise 16, NONE: there are more than 6 PIECES");
        int[] orders = {1, 1, 2, 6, 24, 120, 720};
        CutTrees x = new CutTrees();
        for (int many = 0; many <= 24; many++) {
            Due.is("sum() of " + many, x.sum(), many > 6 ? NONE : many * orders[many]);
            x.piece(0, many, 10, many);
        }
        for (int many = 23; many >= 0; many--) {
            Due.is("drop()", x.drop(), many);
            Due.is("sum() of " + many, x.sum(), many > 6 ? NONE : many * orders[many]);
        }
        Due.is("7 on one line", Make.inLine(7).sum(), NONE);
    }

    private static void sumOfNone() {
        Due.sentence("Terms 4, SUM of none and of one");
        CutTrees x = new CutTrees();
        Due.is("sum()", x.sum(), 0);
        x.piece(-1000, -1000, 1000, 1000);
        Due.is("sum()", x.sum(), 1);
    }

    private static void sumOfSix() {
        Due.sentence("Terms 4, for at most 6 PIECES");
        Due.is("any two cross", Make.tangents(0, 6).sum(), 720 * 21);
        Due.is("all at one place", Make.star(6).sum(), 720 * 11);
        Due.is("none crosses", Make.level(6).sum(), 720 * 6);
        Due.is("all on one line", Make.inLine(6).sum(), 720 * 6);
        Due.is("any two of 5 cross", Make.tangents(0, 5).sum(), 120 * 15);
    }

    private static void sumOfPiecesAlike() {
        Due.sentence("Terms 4, orders of PIECES that lie alike");
        Due.is("two alike", Make.of(0, 0, 5, 5, 0, 0, 5, 5).sum(), 2 * 2);
        Due.is("three alike", Make.of(0, 0, 5, 5, 5, 5, 0, 0, 0, 0, 5, 5).sum(), 6 * 3);
    }

    // Line 0 cuts the k-th above it where it is ahead of that one and of all that lie between them:
    // in one of k + 1 orders.
    private static void sumIsOverAllOrders() {
        Due.sentence("Terms 4, over all orders of the PIECES");
        Due.is("one cut in one of 2 orders", Make.of(5, -9, 5, -8, 0, 0, 10, 0).sum(), 2 * 2 + 1);
        CutTrees x = Make.of(5, -9, 5, -8, 0, 0, 10, 0, 0, 3, 10, 3, 0, 6, 10, 6, 0, 9, 10, 9, 0, 12, 10, 12);
        Due.is("sum()", x.sum(), 720 * 6 + 720 / 2 + 720 / 3 + 720 / 4 + 720 / 5 + 720 / 6);
    }

    private static void sumChangesNothing() {
        Due.sentence("Promise 16, the TREE, what is told and what is met stay");
        CutTrees x = Make.toldCross();
        Due.is("ray", x.ray(20, 0, -3, 0), 2);
        Due.is("sum()", x.sum(), 6);
        Due.stillToldCross(x);
        Due.part(x, 1, 1, 5, 0, 1, 5, 5, 1, 1);
        Due.met(x, 0, 10, 3, 1, 5, 1);
        CutTrees many = Make.level(7);
        many.build(0, 0);
        Due.is("order", many.order(0, 1000), 7);
        Due.is("sum()", many.sum(), NONE);
        Due.counts(many, 7, 7, 7, 8, 7, 0);
        Due.told(many, 0, 1, 2, 3, 4, 5, 6);
        CutTrees without = Make.level(2);
        without.sum();
        Due.noTree(without, 2);
    }
}
