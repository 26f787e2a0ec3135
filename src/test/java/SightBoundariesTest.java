/** Boundary cases of promises 12 to 14, each sentence of the document in a test of its own. */
public final class SightBoundariesTest {
    private static final int NONE = CutTrees.NONE;
    private static final int LEAST_INT = Integer.MIN_VALUE;
    private static final int LARGEST_INT = Integer.MAX_VALUE;

    public static void main(String[] args) {
        seesBeyond();
        seesAtTheLimit();
        seesWithoutPieces();
        seesWithItsOwnPlaces();
        seesFromAPlaceToItself();
        seesPastACorner();
        seesFromBarelyBeside();
        seesAlongALine();
        seesPastTheLastOf24();
        seesWithoutTree();
        rayBeyond();
        rayAtTheLimit();
        rayThatGoesNowhere();
        rayByOneOfBoth();
        refusedRayLeavesWhatIsMet();
        rayWithoutPieces();
        rayFromAPiece();
        rayFromBarelyBeside();
        rayPastACorner();
        rayAlongALine();
        rayFromBarelyBehind();
        rayThatSlantsBarely();
        rayGoesOn();
        fractionsWithoutCommonDivisor();
        largeFractions();
        allMetAtOnePlace();
        allMetTheOtherWay();
        metBeforeAnyRay();
        metOutsideTheRow();
        metOfNoSuchWhat();
        metOfTheLatest();
        metAsItWasThen();
        Due.end();
    }

    private static void seesBeyond() {
        Due.sentence("Promise 12, NONE: one is beyond");
        CutTrees x = Make.toldCross();
        CutTrees none = new CutTrees();
        for (int wrong : Due.BEYOND) {
            Due.is("x0 " + wrong, x.sees(wrong, 9, 9, 9), NONE);
            Due.is("y0 " + wrong, x.sees(9, wrong, 9, 9), NONE);
            Due.is("x1 " + wrong, x.sees(9, 9, wrong, 9), NONE);
            Due.is("y1 " + wrong, x.sees(9, 9, 9, wrong), NONE);
            Due.is("both " + wrong, x.sees(wrong, wrong, wrong, wrong), NONE);
            Due.is("behind a PIECE " + wrong, x.sees(7, 5, 7, wrong), NONE);
            Due.is("without PIECES " + wrong, none.sees(0, 0, 0, wrong), NONE);
        }
        Due.stillToldCross(x);
    }

    private static void seesAtTheLimit() {
        Due.sentence("Promise 12, 1, 0 as far as may be");
        CutTrees x = Make.of(-1000, -1000, 1000, -1000, -1000, 999, 999, 1000);
        Due.is("from corner to corner", x.sees(-1000, 1000, 1000, -1000), 0);
        Due.is("down the side", x.sees(1000, 1000, 1000, -999), 1);
        Due.is("down the side, to the PIECE", x.sees(1000, 1000, 1000, -1000), 0);
        Due.is("along the top", x.sees(-1000, 1000, 998, 1000), 1);
        Due.is("along the top, to the PIECE", x.sees(-1000, 1000, 999, 1000), 0);
        Due.is("up the side", x.sees(-1000, -999, -1000, 998), 1);
    }

    private static void seesWithoutPieces() {
        Due.sentence("Terms 3, comes to no PIECE, there being none");
        CutTrees x = new CutTrees();
        Due.is("sees", x.sees(-1000, -1000, 1000, 1000), 1);
        Due.is("sees", x.sees(0, 0, 0, 0), 1);
        x.piece(-5, 5, 5, -5);
        Due.is("sees", x.sees(-1000, -1000, 1000, 1000), 0);
        x.drop();
        Due.is("sees", x.sees(-1000, -1000, 1000, 1000), 1);
    }

    private static void seesWithItsOwnPlaces() {
        Due.sentence("Terms 3, between two places (these too)");
        CutTrees x = Make.of(0, 0, 10, 0);
        Due.is("the first on it", x.sees(5, 0, 5, 5), 0);
        Due.is("the second on it", x.sees(5, 5, 5, 0), 0);
        Due.is("the first at its corner", x.sees(0, 0, -5, 5), 0);
        Due.is("the second at its corner", x.sees(15, 5, 10, 0), 0);
        Due.is("the first 1 off", x.sees(5, 1, 5, 5), 1);
        Due.is("the second 1 off", x.sees(5, -5, 5, -1), 1);
    }

    private static void seesFromAPlaceToItself() {
        Due.sentence("Terms 3, two places that are one");
        CutTrees x = Make.of(0, 0, 10, 5);
        Due.is("on it", x.sees(4, 2, 4, 2), 0);
        Due.is("its first corner", x.sees(0, 0, 0, 0), 0);
        Due.is("its second corner", x.sees(10, 5, 10, 5), 0);
        Due.is("on its line, ahead", x.sees(-2, -1, -2, -1), 1);
        Due.is("on its line, behind", x.sees(12, 6, 12, 6), 1);
        Due.is("above it", x.sees(4, 3, 4, 3), 1);
        Due.is("below it", x.sees(4, 1, 4, 1), 1);
    }

    // The ways pass -999, -999 and 999, 998 by as little as whole numbers can.
    private static void seesPastACorner() {
        Due.sentence("Terms 3, past a corner");
        CutTrees above = Make.of(-999, -999, -1000, 1000);
        Due.is("barely past", above.sees(-1000, -1000, 1000, 999), 1);
        Due.is("through the corner", above.sees(-1000, -1000, 1000, 1000), 0);
        CutTrees below = Make.of(1000, -1000, 999, 998);
        Due.is("barely past", below.sees(-1000, -1000, 1000, 999), 1);
        Due.is("through the corner", below.sees(-999, -1000, 1000, 999), 0);
        CutTrees across = Make.of(-999, -999, 999, 998);
        Due.is("barely across", across.sees(-1000, -1000, 1000, 999), 0);
        CutTrees level = Make.of(0, 0, 10, 0);
        Due.is("touches the first corner", level.sees(-5, -5, 5, 5), 0);
        Due.is("beside the first corner", level.sees(-1, -5, -1, 5), 1);
        Due.is("beside the second corner", level.sees(11, -5, 11, 5), 1);
        Due.is("its line is crossed, it is not", level.sees(500, 1, 501, -1), 1);
        Due.is("the way's line crosses it, the way does not", level.sees(5, 1, 5, 1000), 1);
        Due.is("the way's line crosses it, the way does not", level.sees(5, -1000, 5, -1), 1);
    }

    private static void seesFromBarelyBeside() {
        Due.sentence("Terms 3, from a place beside a PIECE");
        CutTrees x = Make.of(-1000, -1000, 1000, 999);
        Due.is("in front by 1", x.sees(-999, -999, -1000, 1000), 1);
        Due.is("in front by 1", x.sees(-1000, 1000, -999, -999), 1);
        Due.is("in back by 1", x.sees(999, 998, 1000, -1000), 1);
        Due.is("in back by 1", x.sees(1000, -1000, 999, 998), 1);
        Due.is("from in front to in back", x.sees(-999, -999, 1000, -1000), 0);
        Due.is("from in front to in back", x.sees(-999, -999, 999, 998), 0);
    }

    private static void seesAlongALine() {
        Due.sentence("Terms 3, along the line of a PIECE");
        int[][] turns = {{2, 1, 6, 3}, {6, 3, 2, 1}};
        for (int[] p : turns) {
            CutTrees x = Make.of(p[0], p[1], p[2], p[3]);
            Due.is("ahead of it", x.sees(-2, -1, 0, 0), 1);
            Due.is("up to it", x.sees(0, 0, 2, 1), 0);
            Due.is("into it", x.sees(0, 0, 4, 2), 0);
            Due.is("over it", x.sees(0, 0, 8, 4), 0);
            Due.is("over it, back", x.sees(8, 4, 0, 0), 0);
            Due.is("within it", x.sees(4, 2, 6, 3), 0);
            Due.is("from its end on", x.sees(6, 3, 10, 5), 0);
            Due.is("behind it", x.sees(8, 4, 10, 5), 1);
            Due.is("beside it", x.sees(2, 2, 6, 4), 1);
        }
        CutTrees upright = Make.of(3, 2, 3, 6);
        Due.is("ahead of an upright one", upright.sees(3, -5, 3, 1), 1);
        Due.is("up to an upright one", upright.sees(3, -5, 3, 2), 0);
        Due.is("behind an upright one", upright.sees(3, 7, 3, 9), 1);
        CutTrees gap = Make.of(0, 0, 4, 0, 8, 0, 12, 0);
        Due.is("in a gap", gap.sees(5, 0, 7, 0), 1);
        Due.is("through a gap", gap.sees(6, 5, 6, -5), 1);
        Due.is("to the end of a gap", gap.sees(5, 0, 8, 0), 0);
    }

    private static void seesPastTheLastOf24() {
        Due.sentence("Terms 3, no PIECE of 24");
        CutTrees x = Make.level(24);
        Due.is("only the first is in the way", x.sees(5, -1, 5, 0), 0);
        Due.is("only the last is in the way", x.sees(5, 23, 5, 24), 0);
        Due.is("above the last", x.sees(5, 24, 5, 1000), 1);
        x.drop();
        Due.is("the last is gone", x.sees(5, 23, 5, 24), 1);
    }

    private static void seesWithoutTree() {
        Due.sentence("Promise 12, with or without a TREE");
        CutTrees x = Make.of(0, 0, 10, 0, 5, -5, 5, 5);
        Due.is("sees", x.sees(0, 5, 9, 5), 0);
        Due.is("sees", x.sees(0, 6, 9, 6), 1);
        x.build(0, 0);
        Due.is("sees", x.sees(0, 5, 9, 5), 0);
        Due.is("sees", x.sees(0, 6, 9, 6), 1);
    }

    private static void rayBeyond() {
        Due.sentence("Promise 13, NONE: the place or dx, dy are beyond");
        CutTrees x = Make.toldCross();
        CutTrees none = new CutTrees();
        for (int wrong : Due.BEYOND) {
            Due.is("x " + wrong, x.ray(wrong, 0, 1, 1), NONE);
            Due.is("y " + wrong, x.ray(0, wrong, 1, 1), NONE);
            Due.is("dx " + wrong, x.ray(0, 0, wrong, 1), NONE);
            Due.is("dy " + wrong, x.ray(0, 0, 1, wrong), NONE);
            Due.is("dx alone " + wrong, x.ray(0, 0, wrong, 0), NONE);
            Due.is("dy alone " + wrong, x.ray(0, 0, 0, wrong), NONE);
            Due.is("without PIECES " + wrong, none.ray(0, wrong, 0, 1), NONE);
        }
        Due.met(x);
        Due.stillToldCross(x);
    }

    private static void rayAtTheLimit() {
        Due.sentence("Terms 3, by dx, dy, -1000 .. 1000");
        CutTrees x = Make.of(-1000, 1000, 1000, -1000);
        Due.is("ray", x.ray(-1000, -1000, 1000, 1000), 1);
        Due.met(x, 0, 1, 1);
        Due.is("ray", x.ray(1000, 1000, -1000, -1000), 1);
        Due.met(x, 0, 1, 1);
        Due.is("ray", x.ray(-1000, 1000, 1000, -1000), 1);
        Due.met(x, 0, 0, 1);
        Due.is("ray", x.ray(1000, -1000, -1000, 1000), 1);
        Due.met(x, 0, 0, 1);
    }

    private static void rayThatGoesNowhere() {
        Due.sentence("Promise 13, NONE: both 0");
        CutTrees x = Make.of(0, 0, 10, 0);
        Due.is("beside a PIECE", x.ray(5, 5, 0, 0), NONE);
        Due.is("on a PIECE", x.ray(5, 0, 0, 0), NONE);
        Due.is("and beyond", x.ray(1001, 0, 0, 0), NONE);
        Due.is("without PIECES", new CutTrees().ray(0, 0, 0, 0), NONE);
        Due.met(x);
    }

    private static void rayByOneOfBoth() {
        Due.sentence("Terms 3, not both 0");
        CutTrees x = Make.of(-5, -5, 5, 5);
        Due.is("dx alone", x.ray(-9, 0, 1, 0), 1);
        Due.met(x, 0, 9, 1);
        Due.is("dx alone, back", x.ray(9, 0, -1, 0), 1);
        Due.met(x, 0, 9, 1);
        Due.is("dy alone", x.ray(0, -9, 0, 1), 1);
        Due.met(x, 0, 9, 1);
        Due.is("dy alone, down", x.ray(0, 9, 0, -1), 1);
        Due.met(x, 0, 9, 1);
    }

    private static void refusedRayLeavesWhatIsMet() {
        Due.sentence("Promise 14, the latest ray() that was not NONE");
        CutTrees x = Make.of(0, 0, 10, 0, 5, -5, 5, 5);
        Due.is("ray", x.ray(20, 0, -3, 0), 2);
        Due.is("refused", x.ray(0, 0, 0, 0), NONE);
        Due.met(x, 0, 10, 3, 1, 5, 1);
        Due.is("refused", x.ray(1001, 0, 1, 0), NONE);
        Due.is("refused", x.ray(0, 0, 1, -1001), NONE);
        Due.met(x, 0, 10, 3, 1, 5, 1);
    }

    private static void rayWithoutPieces() {
        Due.sentence("Promise 13, how many PIECES are MET, of none");
        CutTrees x = new CutTrees();
        Due.is("ray", x.ray(0, 0, 1, 1), 0);
        Due.met(x);
    }

    private static void rayFromAPiece() {
        Due.sentence("Terms 3, T, 0 and more, from a place on a PIECE");
        CutTrees x = Make.of(0, 0, 10, 0);
        Due.is("across", x.ray(5, 0, 0, 7), 1);
        Due.met(x, 0, 0, 1);
        Due.is("from its first corner", x.ray(0, 0, -3, 8), 1);
        Due.met(x, 0, 0, 1);
        Due.is("from its second corner", x.ray(10, 0, 3, -8), 1);
        Due.met(x, 0, 0, 1);
    }

    private static void rayFromBarelyBeside() {
        Due.sentence("Terms 3, T, 0 and more, from beside a PIECE");
        CutTrees x = Make.of(-1000, -1000, 1000, 999);
        Due.is("to it", x.ray(-999, -999, 0, -1), 1);
        Due.met(x, 0, 1, 2000);
        Due.is("to it", x.ray(-999, -999, 0, -1000), 1);
        Due.met(x, 0, 1, 2_000_000);
        Due.is("away", x.ray(-999, -999, 0, 1), 0);
        Due.is("away", x.ray(-999, -999, 0, 1000), 0);
        Due.is("to it", x.ray(999, 998, 0, 1), 1);
        Due.met(x, 0, 1, 2000);
        Due.is("away", x.ray(999, 998, 0, -1), 0);
        Due.met(x);
    }

    // By 1000, 999 from -1000, -1000 the corners -999, -999 and -1, -2 are passed by 1.
    private static void rayPastACorner() {
        Due.sentence("Terms 3, on it, past a corner");
        CutTrees left = Make.of(-999, -999, -1000, 1000);
        Due.is("barely past", left.ray(-1000, -1000, 1000, 999), 0);
        CutTrees right = Make.of(0, -1000, -1, -2);
        Due.is("barely past", right.ray(-1000, -1000, 1000, 999), 0);
        CutTrees across = Make.of(-999, -999, -1, -2, -1, -2, -999, -999);
        Due.is("barely across", across.ray(-1000, -1000, 1000, 999), 2);
        Due.met(across, 0, 1, 2, 1, 1, 2);
        CutTrees level = Make.of(0, 0, 10, 0, 10, 0, 0, 0);
        Due.is("through the corner", level.ray(-5, -5, 1, 1), 2);
        Due.met(level, 0, 5, 1, 1, 5, 1);
        Due.is("through the corner", level.ray(15, -5, -1, 1), 2);
        Due.is("beside the corner", level.ray(-6, -5, 1, 1), 0);
        Due.is("beside the corner", level.ray(16, -5, -1, 1), 0);
    }

    private static void rayAlongALine() {
        Due.sentence("Terms 3, the least T, along the line of a PIECE");
        int[][] turns = {{2, 1, 6, 3}, {6, 3, 2, 1}};
        for (int[] p : turns) {
            CutTrees x = Make.of(p[0], p[1], p[2], p[3]);
            Due.is("to its near end", x.ray(0, 0, 4, 2), 1);
            Due.met(x, 0, 1, 2);
            Due.is("from its near end", x.ray(2, 1, 4, 2), 1);
            Due.met(x, 0, 0, 1);
            Due.is("from within", x.ray(4, 2, 4, 2), 1);
            Due.met(x, 0, 0, 1);
            Due.is("from its far end, away", x.ray(6, 3, 4, 2), 1);
            Due.met(x, 0, 0, 1);
            Due.is("from behind it, away", x.ray(8, 4, 4, 2), 0);
            Due.is("from behind it, back", x.ray(8, 4, -6, -3), 1);
            Due.met(x, 0, 1, 3);
            Due.is("from ahead of it, away", x.ray(0, 0, -6, -3), 0);
            Due.is("beside it", x.ray(0, 1, 2, 1), 0);
        }
        CutTrees upright = Make.of(3, 6, 3, 2);
        Due.is("to an upright one", upright.ray(3, -1, 0, 6), 1);
        Due.met(upright, 0, 1, 2);
        Due.is("away from an upright one", upright.ray(3, 7, 0, 6), 0);
    }

    private static void rayFromBarelyBehind() {
        Due.sentence("Terms 3, T, 0 and more, on the line of a PIECE");
        CutTrees x = Make.of(-5, 0, -1, 0, -1, 0, -5, 0);
        Due.is("1 behind it, away", x.ray(0, 0, 1, 0), 0);
        Due.is("at its end, away", x.ray(-1, 0, 1, 0), 2);
        Due.met(x, 0, 0, 1, 1, 0, 1);
        Due.is("1 ahead of it, away", x.ray(-6, 0, -1, 0), 0);
        Due.is("1 ahead of it, to it", x.ray(-6, 0, 1, 0), 2);
        Due.met(x, 0, 1, 1, 1, 1, 1);
    }

    private static void rayThatSlantsBarely() {
        Due.sentence("Terms 3, on a PIECE that goes nearly the same way");
        CutTrees x = Make.of(0, 0, 5, 1, 5, 1, 0, 0);
        Due.is("to the first corner", x.ray(-9, 0, 1, 0), 2);
        Due.met(x, 0, 9, 1, 1, 9, 1);
        Due.is("to the second corner", x.ray(-9, 1, 1, 0), 2);
        Due.met(x, 0, 14, 1, 1, 14, 1);
        Due.is("to the second corner, back", x.ray(9, 1, -1, 0), 2);
        Due.met(x, 0, 4, 1, 1, 4, 1);
        Due.is("beside it", x.ray(-9, 2, 1, 0), 0);
    }

    private static void rayGoesOn() {
        Due.sentence("Terms 3, a RAY has no end");
        CutTrees x = Make.of(1000, -1, 1000, 1, 999, 1000, 1000, 1000);
        Due.is("ray", x.ray(-1000, 0, 1, 0), 1);
        Due.met(x, 0, 2000, 1);
        Due.is("ray", x.ray(-1000, -1000, 1, 1), 1);
        Due.met(x, 1, 2000, 1);
    }

    private static void fractionsWithoutCommonDivisor() {
        Due.sentence("Terms 3, N / D, D above 0, without a common divisor");
        CutTrees x = Make.of(6, -5, 6, 5, -6, 5, -6, -5);
        Due.is("ray", x.ray(0, 0, 4, 0), 1);
        Due.met(x, 0, 3, 2);
        Due.is("ray", x.ray(0, 0, -4, 0), 1);
        Due.met(x, 1, 3, 2);
        Due.is("ray", x.ray(0, 0, 3, 0), 1);
        Due.met(x, 0, 2, 1);
        Due.is("ray", x.ray(0, 0, 12, 0), 1);
        Due.met(x, 0, 1, 2);
        Due.is("ray", x.ray(6, 0, -1000, 0), 2);
        Due.met(x, 0, 0, 1, 1, 3, 250);
    }

    // In 32 bits the products of these go round, and the order with them.
    private static void largeFractions() {
        Due.sentence("Terms 3, MET ones are in order of T");
        CutTrees x = Make.of(681, -186, -310, 179, -1, 967, 96, -855);
        Due.is("ray", x.ray(-1000, -1000, 1000, 999), 2);
        Due.met(x, 1, 2_010_977, 1_918_903, 0, 1_420_239, 1_355_009);
        CutTrees turned = Make.of(-1, 967, 96, -855, 681, -186, -310, 179);
        Due.is("ray", turned.ray(-1000, -1000, 1000, 999), 2);
        Due.met(turned, 0, 2_010_977, 1_918_903, 1, 1_420_239, 1_355_009);
        CutTrees others = Make.of(414, 823, 538, -850, -941, 227, 584, 463);
        Due.is("ray", others.ray(-1000, -1000, 1000, 999), 2);
        Due.met(others, 0, 1_295_837, 898_438, 1, 1_857_251, 1_287_475);
    }

    private static void allMetAtOnePlace() {
        Due.sentence("Terms 3, in order of T, then of PIECES");
        CutTrees x = Make.star(24);
        Due.is("ray", x.ray(0, -1000, 0, 1), 24);
        for (int k = 0; k < 24; k++) {
            Due.is("met(" + k + ", 0)", x.met(k, 0), k);
            Due.is("met(" + k + ", 1)", x.met(k, 1), 1000);
            Due.is("met(" + k + ", 2)", x.met(k, 2), 1);
        }
        Due.is("met(24, 0)", x.met(24, 0), NONE);
        CutTrees inTwos = Make.of(9, -1, 9, 1, 3, -1, 3, 1, 9, 1, 9, -1, 3, 0, 4, 0);
        Due.is("ray", inTwos.ray(0, 0, 3, 0), 4);
        Due.met(inTwos, 1, 1, 1, 3, 1, 1, 0, 3, 1, 2, 3, 1);
    }

    private static void allMetTheOtherWay() {
        Due.sentence("Terms 3, 24 MET ones, the latest first");
        CutTrees x = Make.level(24);
        Due.is("ray", x.ray(5, 1000, 0, -1), 24);
        for (int k = 0; k < 24; k++) {
            Due.is("met(" + k + ", 0)", x.met(k, 0), 23 - k);
            Due.is("met(" + k + ", 1)", x.met(k, 1), 977 + k);
        }
        Due.is("met(24, 0)", x.met(24, 0), NONE);
    }

    private static void metBeforeAnyRay() {
        Due.sentence("Promise 14, NONE if there is none such, ahead of any ray()");
        CutTrees x = new CutTrees();
        Due.met(x);
        x.piece(0, 0, 10, 0);
        x.build(0, 0);
        x.order(0, 0);
        x.sees(5, 5, 5, -5);
        Due.met(x);
    }

    private static void metOutsideTheRow() {
        Due.sentence("Promise 14, NONE if there is none such, too small or too large a k");
        CutTrees x = Make.of(0, 0, 10, 0, 5, -5, 5, 5);
        x.ray(20, 0, -3, 0);
        int[] wrong = {LEAST_INT, -2, -1, 2, 3, 23, 24, 25, 256, LARGEST_INT};
        for (int k : wrong) {
            for (int what = -1; what <= 3; what++) {
                Due.is("met(" + k + ", " + what + ")", x.met(k, what), NONE);
            }
        }
        Due.met(x, 0, 10, 3, 1, 5, 1);
    }

    private static void metOfNoSuchWhat() {
        Due.sentence("Promise 14, NONE if there is none such, another what");
        CutTrees x = Make.of(0, 0, 10, 0, 5, -5, 5, 5);
        x.ray(20, 0, -3, 0);
        int[] wrong = {LEAST_INT, -2, -1, 3, 4, 256, LARGEST_INT};
        for (int what : wrong) {
            Due.is("met(0, " + what + ")", x.met(0, what), NONE);
            Due.is("met(1, " + what + ")", x.met(1, what), NONE);
        }
    }

    private static void metOfTheLatest() {
        Due.sentence("Promise 14, the latest ray()");
        CutTrees x = Make.of(0, 0, 10, 0, 5, -5, 5, 5);
        Due.is("ray", x.ray(20, 0, -3, 0), 2);
        Due.is("ray that meets one", x.ray(9, 3, -1, 0), 1);
        Due.met(x, 1, 4, 1);
        Due.is("met(1, 0)", x.met(1, 0), NONE);
        Due.is("ray that meets none", x.ray(20, 0, 1, 0), 0);
        Due.met(x);
    }

    private static void metAsItWasThen() {
        Due.sentence("Promise 14, the PIECE (its number then)");
        CutTrees x = Make.of(0, 0, 10, 0, 5, -5, 5, 5);
        Due.is("ray", x.ray(20, 0, -3, 0), 2);
        Due.is("drop()", x.drop(), 1);
        Due.met(x, 0, 10, 3, 1, 5, 1);
        Due.is("drop()", x.drop(), 0);
        Due.met(x, 0, 10, 3, 1, 5, 1);
        Due.is("another PIECE with that number", x.piece(-900, 5, -900, 7), 0);
        Due.met(x, 0, 10, 3, 1, 5, 1);
        x.build(0, 0);
        x.order(0, 0);
        x.least();
        x.sum();
        Due.met(x, 0, 10, 3, 1, 5, 1);
    }
}
