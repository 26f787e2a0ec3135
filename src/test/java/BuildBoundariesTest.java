/** Boundary cases of the trees and of promise 5, each sentence of the document in a test of its own. */
public final class BuildBoundariesTest {
    private static final int NONE = CutTrees.NONE;

    public static void main(String[] args) {
        noSuchRule();
        refusedBuildLeavesTheTree();
        firstAndLastRule();
        ofNone();
        ofOne();
        barelyInFrontOrBack();
        touchingIsNotCutting();
        lineReachesBeyondItsPiece();
        barelyCut();
        cutOfLongPieces();
        notCutTwiceAtOnePlace();
        wholeRowOnOneLine();
        lineIsTheChosenOnes();
        fewestCutsOfSeveral();
        fewestCutsOfMany();
        drawGoesRound();
        drawOfOneOnALine();
        seedIsForRule2();
        leastUnlikeOfSeveral();
        leastUnlikeAheadOfCuts();
        mostKnots();
        Due.end();
    }

    private static void noSuchRule() {
        Due.sentence("Promise 5, NONE: no such rule");
        int[] wrong = {Integer.MIN_VALUE, -2, -1, 4, 5, 256, 65_536, Integer.MAX_VALUE};
        CutTrees x = Make.level(3);
        for (int rule : wrong) {
            Due.is("build(" + rule + ", 0)", x.build(rule, 0), NONE);
            Due.noTree(x, 3);
        }
        Due.is("of no pieces", new CutTrees().build(4, 0), NONE);
    }

    private static void refusedBuildLeavesTheTree() {
        Due.sentence("Promise 5, the TREE stays");
        CutTrees x = Make.toldCross();
        Due.is("build(-1, 0)", x.build(-1, 0), NONE);
        Due.stillToldCross(x);
        Due.is("build(4, 7)", x.build(4, 7), NONE);
        Due.stillToldCross(x);
        CutTrees ofNone = new CutTrees();
        Due.is("build", ofNone.build(0, 0), 0);
        Due.is("build(4, 0)", ofNone.build(4, 0), NONE);
        Due.counts(ofNone, 0, 0, 0, 1, 0, 0);
    }

    private static void firstAndLastRule() {
        Due.sentence("Promise 5, how many KNOTS, by rules 0 to 3");
        int[] seeds = {Integer.MIN_VALUE, -1, 0, 1, Integer.MAX_VALUE};
        CutTrees x = Make.level(3);
        for (int rule = 0; rule <= 3; rule++) {
            for (int seed : seeds) {
                Due.is("build(" + rule + ", " + seed + ")", x.build(rule, seed), 3);
            }
        }
    }

    private static void ofNone() {
        Due.sentence("Terms 2, of none a LEAF");
        for (int rule = 0; rule <= 3; rule++) {
            CutTrees x = new CutTrees();
            Due.is("build", x.build(rule, 1), 0);
            Due.counts(x, 0, 0, 0, 1, 0, 0);
            Due.is("where", x.where(-1000, 1000), 0);
            Due.is("knot(0, 0) throws", Due.thrownByKnot(x, 0, 0), Due.INDEX);
            Due.is("part(0, 0) throws", Due.thrownByPart(x, 0, 0), Due.INDEX);
        }
    }

    private static void ofOne() {
        Due.sentence("Terms 2, of one a KNOT with two LEAVES");
        for (int rule = 0; rule <= 3; rule++) {
            CutTrees x = Make.of(6, 4, 8, 2);
            Due.is("build", x.build(rule, 1), 1);
            Due.counts(x, 1, 1, 1, 2, 1, 0);
            Due.knot(x, 0, 0, 1, 0, -2, -3, NONE);
            Due.part(x, 0, 0, 6, 4, 1, 8, 2, 1, 0);
        }
    }

    // Of the line from -1000, -1000 to 1000, 999 the side of a place is a whole number: it is 1 at
    // -999, -999 and -1 at 999, 998.
    private static void barelyInFrontOrBack() {
        Due.sentence("Terms 1, FRONT above 0, BACK below");
        CutTrees x = Make.of(-1000, -1000, 1000, 999, -999, -999, -1000, -999, 999, 998, 1000, 998);
        Due.is("build", x.build(0, 0), 3);
        Due.knot(x, 0, 0, 1, 0, 1, 2, NONE);
        Due.knot(x, 1, 1);
        Due.knot(x, 2, 2);
        CutTrees turned = Make.of(1000, 999, -1000, -1000, -999, -999, -1000, -999, 999, 998, 1000, 998);
        Due.is("build", turned.build(0, 0), 3);
        Due.knot(turned, 1, 2);
        Due.knot(turned, 2, 1);
    }

    private static void touchingIsNotCutting() {
        Due.sentence("Terms 2, no place in BACK, none in FRONT");
        CutTrees x = Make.of(0, 0, 10, 0, 5, 0, 5, 7, 7, 7, 7, 0, 6, -2, 6, 0, 8, 0, 8, -2, 10, 0, 100, 1);
        Due.is("build", x.build(0, 0), 6);
        Due.counts(x, 6, 6, 6, 7, 4, 0);
        Due.knot(x, 0, 0, 1, 0, 1, 4, NONE);
        Due.knot(x, 1, 1, 1, 1, -2, 2, 0);
        Due.knot(x, 2, 2, 1, 2, 3, -5, 1);
        Due.knot(x, 4, 3, 1, 4, -6, 5, 0);
        CutTrees far = Make.of(0, 0, 1, 0, 900, 0, 900, 5, -900, -5, -900, 0);
        Due.is("touches the line beyond its piece", far.build(0, 0), 3);
    }

    private static void lineReachesBeyondItsPiece() {
        Due.sentence("Terms 2, cut by the line of a PART");
        CutTrees x = Make.of(0, 0, 1, 0, 1000, -1000, 1000, 1000, -1000, 1, -1000, -1);
        Due.is("build", x.build(0, 0), 5);
        Due.part(x, 1, 1, 1000, 0, 1, 1000, 1000, 1, 1);
        Due.part(x, 2, 2, -1000, 1, 1, -1000, 0, 1, 2);
        Due.part(x, 3, 1, 1000, -1000, 1, 1000, 0, 1, 3);
        Due.part(x, 4, 2, -1000, 0, 1, -1000, -1, 1, 4);
        CutTrees cutOff = Make.of(0, 0, 10, 0, 5, -5, 5, 5, 0, 3, 10, 3, 0, -3, 10, -3);
        Due.is("the line of a cut PART is the PIECE's", cutOff.build(0, 0), 7);
    }

    // The sides of its corners are 1 and -1: it is cut in its middle.
    private static void barelyCut() {
        Due.sentence("Terms 2, one that has both is cut there");
        CutTrees x = Make.of(-1000, -1000, 1000, 999, -999, -999, 999, 998);
        Due.is("build", x.build(0, 0), 3);
        Due.part(x, 1, 1, -999, -999, 1, 0, -1, 2, 1);
        Due.part(x, 2, 1, 0, -1, 2, 999, 998, 1, 2);
        CutTrees atItsEnd = Make.of(-1000, -1000, 1000, 999, -999, -999, 1000, -1000);
        Due.is("of one side there is little", atItsEnd.build(0, 0), 3);
        CutTrees onIt = Make.of(-1000, -1000, 1000, 999, -1000, -1000, 1000, -1000);
        Due.is("of one side there is nothing", onIt.build(0, 0), 2);
    }

    // The half of piece 2 at the left ends at 0, 0, ahead of the line of piece 1; to find that out
    // takes products beyond 32 bits.
    private static void cutOfLongPieces() {
        Due.sentence("Terms 2, sides of the PARTS of long PIECES");
        CutTrees x = Make.of(0, -1000, 0, 1000, -1000, 1000, -500, 800, -1000, -1000, 1000, 1000);
        Due.is("build", x.build(0, 0), 4);
        Due.part(x, 2, 2, -1000, -1000, 1, 0, 0, 1, 2);
        Due.part(x, 3, 2, 0, 0, 1, 1000, 1000, 1, 3);
        CutTrees turned = Make.of(0, -1000, 0, 1000, -1000, 1000, -500, 800, 1000, 1000, -1000, -1000);
        Due.is("build", turned.build(0, 0), 4);
        Due.part(turned, 2, 2, 0, 0, 1, -1000, -1000, 1, 2);
        Due.part(turned, 3, 2, 1000, 1000, 1, 0, 0, 1, 3);
    }

    private static void notCutTwiceAtOnePlace() {
        Due.sentence("Terms 2, PARTS that end where the next line goes through");
        CutTrees x = Make.star(24);
        for (int rule = 0; rule <= 3; rule++) {
            Due.is("build", x.build(rule, 9), 47);
            Due.is("PARTS", x.count(2), 47);
            Due.is("cuts", x.count(5), 23);
        }
        // All through 1/3, 1/3, which no whole number of steps along a piece comes to.
        CutTrees third = Make.of(0, 0, 1, 1, 0, 1, 1, -1, 1, 0, -1, 1, 0, -1, 1, 3);
        Due.is("build", third.build(0, 0), 7);
        Due.part(third, 0, 0, 0, 0, 1, 1, 1, 1, 0);
        Due.part(third, 1, 1, 0, 1, 1, 1, 1, 3, 1);
    }

    private static void wholeRowOnOneLine() {
        Due.sentence("Terms 2, PARTS that lie ON it are the KNOT's, in their order");
        CutTrees x = Make.inLine(24);
        for (int rule = 0; rule <= 3; rule++) {
            Due.is("build", x.build(rule, 0), 1);
            Due.counts(x, 24, 1, 24, 2, 1, 0);
            Due.knot(x, 0, 0, 24, 0, -2, -3, NONE);
            for (int i = 0; i < 24; i++) {
                Due.part(x, i, i, 10 * i, 0, 1, 10 * i + 5, 0, 1, 0);
            }
        }
    }

    // The first draws from the seeds 0, 1, 5 are 0, 16838, 18655.
    private static void lineIsTheChosenOnes() {
        Due.sentence("Terms 2, the line of one of them, though another on that line is ahead of it");
        CutTrees x = Make.of(0, 0, 10, 0, 10, 0, 0, 0, 0, 5, 10, 5);
        Due.is("build(2, 0)", x.build(2, 0), 2);
        Due.knot(x, 0, 0, 2, 0, 1, -4, NONE);
        Due.is("build(2, 5)", x.build(2, 5), 2);
        Due.knot(x, 0, 1, 2, 0, -2, 1, NONE);
        Due.part(x, 0, 0);
        Due.part(x, 1, 1);
        Due.is("build(2, 1)", x.build(2, 1), 2);
        Due.knot(x, 0, 2, 1, 0, -2, 1, NONE);
    }

    private static void fewestCutsOfSeveral() {
        Due.sentence("Rule 1, of several the first");
        CutTrees x = Make.most();
        Due.is("build", x.build(1, 0), 300);
        Due.knot(x, 0, 0);
        Due.knot(x, 1, 1);
        CutTrees none = Make.level(24);
        Due.is("build", none.build(1, 0), 24);
        Due.knot(none, 0, 0, 1, 0, 1, -26, NONE);
        Due.knot(none, 23, 23, 1, 23, -2, -3, 22);
    }

    private static void fewestCutsOfMany() {
        Due.sentence("Rule 1, cuts the fewest of the row");
        CutTrees x = new CutTrees();
        Due.is("piece", x.piece(5, -10, 5, -5), 0);
        for (int i = 1; i < 24; i++) {
            Due.is("piece", x.piece(0, i, 10, i), i);
        }
        Due.is("its line cuts all others", x.build(0, 0), 47);
        Due.is("theirs cut none", x.build(1, 0), 24);
        Due.knot(x, 0, 1);
        CutTrees byOne = Make.of(0, 0, 10, 0, 20, -5, 20, 5, 25, -5, 25, 5, 18, 3, 30, 3);
        Due.is("2, 1, 1, 2 cuts", byOne.build(1, 0), 6);
        Due.knot(byOne, 0, 1);
    }

    private static void drawGoesRound() {
        Due.sentence("Rule 2, 32 bits, round");
        int[] seeds = {Integer.MIN_VALUE, -65_536, -2, -1, 0, 1, 65_535, 123_456_789, Integer.MAX_VALUE};
        for (int seed : seeds) {
            CutTrees x = Make.level(24);
            Due.is("build(2, " + seed + ")", x.build(2, seed), 24);
            Drawing drawing = new Drawing(x, seed);
            drawing.compare(0, 24, NONE, 1);
            Due.counts(x, 24, drawing.knots, 24, drawing.leaves, drawing.longest, 0);
        }
    }

    /** What the draws make of level pieces, each row of which goes from a lowest to a highest one. */
    private static final class Drawing {
        final CutTrees x;
        long draw;
        int knots;
        int leaves;
        int longest;

        Drawing(CutTrees x, int seed) {
            this.x = x;
            draw = seed & 0xFFFF_FFFFL;
        }

        int compare(int from, int to, int above, int depth) {
            if (from == to) {
                leaves++;
                return -1 - leaves;
            }
            longest = Math.max(longest, depth);
            int knot = knots++;
            draw = 1_103_515_245L * draw + 12_345L & 0xFFFF_FFFFL;
            int line = from + (int) ((draw >> 16 & 32_767) % (to - from));
            int front = compare(line + 1, to, knot, depth + 1);
            int back = compare(from, line, knot, depth + 1);
            Due.knot(x, knot, line, 1, knot, front, back, above);
            return knot;
        }
    }

    private static void drawOfOneOnALine() {
        Due.sentence("Rule 2, modulo how many there are in the row");
        int[] seeds = {0, 1, 2, 3, 4, 5, 6, 7};
        int[] draws = {0, 16838, 908, 17747, 1817, 18655, 2726, 19564};
        CutTrees x = Make.inLine(24);
        for (int i = 0; i < seeds.length; i++) {
            Due.is("build", x.build(2, seeds[i]), 1);
            Due.knot(x, 0, draws[i] % 24, 24);
        }
    }

    private static void seedIsForRule2() {
        Due.sentence("Promise 5, the seed is for rule 2");
        CutTrees x = Make.level(7);
        int[] rules = {0, 1, 3};
        for (int rule : rules) {
            x.build(rule, 0);
            int line = x.knot(1, 0);
            x.build(rule, Integer.MIN_VALUE);
            Due.knot(x, 1, line);
            x.build(rule, 99);
            Due.knot(x, 1, line);
        }
        x.build(2, 1);
        Due.knot(x, 0, 16838 % 7);
        x.build(2, 1);
        Due.knot(x, 0, 16838 % 7);
    }

    private static void leastUnlikeOfSeveral() {
        Due.sentence("Rule 3, of several the one that cuts fewer, then the first");
        int[] many = {2, 3, 4, 5, 23, 24};
        int[] chosen = {0, 1, 1, 2, 11, 11};
        for (int i = 0; i < many.length; i++) {
            CutTrees x = Make.level(many[i]);
            Due.is("build", x.build(3, 0), many[i]);
            Due.knot(x, 0, chosen[i]);
        }
        CutTrees crossing = Make.most();
        Due.is("build", crossing.build(3, 0), 300);
        Due.knot(crossing, 0, 0);
        // Line 0 cuts four and leaves one in back, lines 2 and 3 cut none and leave 3 and 2.
        CutTrees fewer = Make.of(
            5, -9, 5, -8, 0, 0, 10, 0, 0, 3, 10, 3, 0, 6, 10, 6, 20, 9, 30, 9, 0, 12, 10, 12);
        Due.is("build", fewer.build(3, 0), 7);
        Due.knot(fewer, 0, 2);
    }

    // Line 23 cuts all 23 others and leaves both sizes alike; of any other they are at least 1 unlike.
    private static void leastUnlikeAheadOfCuts() {
        Due.sentence("Rule 3, the least unlike sizes of both sides");
        CutTrees x = new CutTrees();
        for (int i = 0; i < 23; i++) {
            Due.is("piece", x.piece(0, i, 10, i), i);
        }
        Due.is("piece", x.piece(5, -10, 5, -5), 23);
        Due.is("build", x.build(3, 0), 47);
        Due.knot(x, 0, 23, 1, 0, 1, 24, NONE);
        Due.is("cuts", x.count(5), 23);
    }

    private static void mostKnots() {
        Due.sentence("Terms 2, any two of 24 PIECES cut");
        CutTrees x = Make.most();
        for (int rule = 0; rule <= 3; rule++) {
            Due.is("build", x.build(rule, 77), 300);
            Due.is("count(1)", x.count(1), 300);
            Due.is("count(2)", x.count(2), 300);
            Due.is("count(3)", x.count(3), 301);
            Due.is("count(5)", x.count(5), 276);
        }
    }
}
