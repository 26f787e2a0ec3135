/** Boundary cases of promises 1 to 4, each sentence of the document in a test of its own. */
public final class PieceBoundariesTest {
    private static final int NONE = CutTrees.NONE;
    private static final int LEAST_INT = Integer.MIN_VALUE;
    private static final int LARGEST_INT = Integer.MAX_VALUE;

    public static void main(String[] args) {
        newHasNoPieces();
        newHasNoTree();
        newSharesNothing();
        atMost24();
        refusedWhenFull();
        cornersAlike();
        cornersBarelyUnlike();
        cornersBeyond();
        cornersAtTheLimit();
        samePieceAgain();
        pieceTakesTheTree();
        refusedPieceLeavesTheTree();
        refusedFullLeavesTheTree();
        dropOfNone();
        dropToNone();
        dropIsTheLatest();
        dropTakesTheTree();
        refusedDropLeavesTheTree();
        lookAtNoSuchPiece();
        lookAtNoSuchWhat();
        lookWithBothWrong();
        partsOfAPiece();
        partsOfAPieceWithoutTree();
        Due.end();
    }

    private static void newHasNoPieces() {
        Due.sentence("Promise 1, no PIECES");
        CutTrees x = new CutTrees();
        Due.is("count(0)", x.count(0), 0);
        int[] any = {LEAST_INT, -1, 0, 1, 23, 24, LARGEST_INT};
        for (int piece : any) {
            Due.is("look(" + piece + ", 0) throws", Due.thrownByLook(x, piece, 0), Due.INDEX);
        }
        Due.is("drop()", x.drop(), NONE);
        Due.is("sees", x.sees(-1000, -1000, 1000, 1000), 1);
        Due.is("sees", x.sees(0, 0, 0, 0), 1);
        Due.is("ray", x.ray(0, 0, 1, 0), 0);
        Due.met(x);
        Due.is("least()", x.least(), 0);
        Due.is("sum()", x.sum(), 0);
    }

    private static void newHasNoTree() {
        Due.sentence("Promise 1, no TREE");
        Due.noTree(new CutTrees(), 0);
    }

    private static void newSharesNothing() {
        Due.sentence("Promise 1, a new object beside another");
        CutTrees old = Make.toldCross();
        Due.is("ray", old.ray(5, 9, 0, -1), 2);
        CutTrees x = new CutTrees();
        Due.noTree(x, 0);
        Due.met(x);
        Due.is("piece", x.piece(1, 1, 2, 2), 0);
        Due.is("drop()", x.drop(), 0);
        Due.stillToldCross(old);
        Due.met(old, 1, 4, 1, 0, 9, 1);
    }

    private static void atMost24() {
        Due.sentence("Terms 1, at most 24, numbered from 0 on");
        CutTrees x = new CutTrees();
        for (int i = 0; i < 24; i++) {
            Due.is("piece", x.piece(i, -i, i + 1, i), i);
            Due.is("count(0)", x.count(0), i + 1);
        }
        for (int i = 0; i < 24; i++) {
            Due.look(x, i, i, -i, i + 1, i, 0);
        }
    }

    private static void refusedWhenFull() {
        Due.sentence("Promise 2, NONE: there are 24");
        CutTrees x = Make.level(24);
        for (int time = 0; time < 3; time++) {
            Due.is("the 25th", x.piece(1, 2, 3, 4), NONE);
            Due.is("the 25th, alike", x.piece(1, 2, 1, 2), NONE);
            Due.is("the 25th, beyond", x.piece(1, 2, 1001, 2), NONE);
        }
        Due.is("count(0)", x.count(0), 24);
        Due.look(x, 0, 0, 0, 10, 0);
        Due.look(x, 23, 0, 23, 10, 23);
        Due.is("look(24, 0) throws", Due.thrownByLook(x, 24, 0), Due.INDEX);
        Due.is("drop()", x.drop(), 23);
        Due.is("the 24th again", x.piece(1, 2, 3, 4), 23);
        Due.look(x, 23, 1, 2, 3, 4);
        Due.is("full again", x.piece(5, 6, 7, 8), NONE);
    }

    private static void cornersAlike() {
        Due.sentence("Promise 2, NONE: the corners are alike");
        CutTrees x = new CutTrees();
        int[] some = {-1000, -1, 0, 1, 7, 1000};
        for (int a : some) {
            for (int b : some) {
                Due.is("piece at " + a + ", " + b, x.piece(a, b, a, b), NONE);
            }
        }
        Due.is("alike and beyond", x.piece(1001, 0, 1001, 0), NONE);
        Due.is("count(0)", x.count(0), 0);
    }

    private static void cornersBarelyUnlike() {
        Due.sentence("Terms 1, from a corner to another, unlike one");
        CutTrees x = Make.of(0, 0, 1, 0, 0, 0, 0, 1, 7, 7, 6, 7, 7, 7, 7, 6, 3, 4, 4, 3, 5, -5, -5, 5);
        Due.is("count(0)", x.count(0), 6);
        Due.look(x, 3, 7, 7, 7, 6);
    }

    private static void cornersBeyond() {
        Due.sentence("Promise 2, NONE: the corners are beyond");
        CutTrees x = new CutTrees();
        for (int wrong : Due.BEYOND) {
            Due.is("x0 " + wrong, x.piece(wrong, 1, 2, 3), NONE);
            Due.is("y0 " + wrong, x.piece(1, wrong, 2, 3), NONE);
            Due.is("x1 " + wrong, x.piece(1, 2, wrong, 3), NONE);
            Due.is("y1 " + wrong, x.piece(1, 2, 3, wrong), NONE);
            Due.is("all " + wrong, x.piece(wrong, -wrong, -wrong, wrong), NONE);
        }
        Due.is("count(0)", x.count(0), 0);
        Due.is("the first one", x.piece(1, 2, 3, 4), 0);
    }

    private static void cornersAtTheLimit() {
        Due.sentence("Terms 1, -1000 .. 1000");
        int[] limits = {-1000, 1000};
        CutTrees x = new CutTrees();
        int number = 0;
        for (int limit : limits) {
            Due.is("x0", x.piece(limit, 1, 2, 3), number);
            Due.is("y0", x.piece(1, limit, 2, 3), number + 1);
            Due.is("x1", x.piece(1, 2, limit, 3), number + 2);
            Due.is("y1", x.piece(1, 2, 3, limit), number + 3);
            Due.is("all", x.piece(limit, -limit, -limit, limit), number + 4);
            number += 5;
        }
        Due.look(x, 0, -1000, 1, 2, 3);
        Due.look(x, 8, 1, 2, 3, 1000);
        Due.look(x, 9, 1000, -1000, -1000, 1000);
    }

    private static void samePieceAgain() {
        Due.sentence("Terms 1, nothing refuses a PIECE that is there already, or that one turned round");
        CutTrees x = Make.of(1, 2, 3, 4, 1, 2, 3, 4, 3, 4, 1, 2);
        Due.is("build", x.build(0, 0), 1);
        Due.counts(x, 3, 1, 3, 2, 1, 0);
        Due.part(x, 2, 2, 3, 4, 1, 1, 2, 1, 0);
    }

    private static void pieceTakesTheTree() {
        Due.sentence("Promise 2, there is no TREE then");
        CutTrees x = Make.toldCross();
        Due.is("piece", x.piece(1, 1, 2, 2), 2);
        Due.noTree(x, 3);
        CutTrees ofNone = new CutTrees();
        Due.is("build", ofNone.build(0, 0), 0);
        Due.counts(ofNone, 0, 0, 0, 1, 0, 0);
        Due.is("piece", ofNone.piece(1, 1, 2, 2), 0);
        Due.noTree(ofNone, 1);
    }

    private static void refusedPieceLeavesTheTree() {
        Due.sentence("Promise 2, a refused PIECE changes nothing");
        CutTrees x = Make.toldCross();
        Due.is("alike", x.piece(3, 3, 3, 3), NONE);
        Due.is("beyond", x.piece(0, 0, 0, 1001), NONE);
        Due.stillToldCross(x);
    }

    private static void refusedFullLeavesTheTree() {
        Due.sentence("Promise 2, a PIECE refused for the 24 changes nothing");
        CutTrees x = Make.level(24);
        Due.is("build", x.build(0, 0), 24);
        Due.is("order", x.order(0, 1000), 24);
        Due.is("the 25th", x.piece(0, 0, 1, 1), NONE);
        Due.counts(x, 24, 24, 24, 25, 24, 0);
        Due.is("told(23)", x.told(23), 23);
        Due.is("where", x.where(0, -1), 24);
    }

    private static void dropOfNone() {
        Due.sentence("Promise 3, NONE: there is none");
        CutTrees x = new CutTrees();
        Due.is("drop()", x.drop(), NONE);
        Due.is("drop()", x.drop(), NONE);
        Due.is("count(0)", x.count(0), 0);
        Due.is("piece", x.piece(1, 2, 3, 4), 0);
        Due.look(x, 0, 1, 2, 3, 4, 0);
    }

    private static void dropToNone() {
        Due.sentence("Promise 3, how many there are");
        CutTrees x = Make.level(24);
        for (int left = 23; left >= 0; left--) {
            Due.is("drop()", x.drop(), left);
            Due.is("count(0)", x.count(0), left);
        }
        Due.is("drop()", x.drop(), NONE);
        Due.noTree(x, 0);
    }

    private static void dropIsTheLatest() {
        Due.sentence("Promise 3, the latest PIECE is gone");
        CutTrees x = Make.of(1, 2, 3, 4, 5, 6, 7, 8, 9, 10, 11, 12);
        Due.is("drop()", x.drop(), 2);
        Due.look(x, 0, 1, 2, 3, 4);
        Due.look(x, 1, 5, 6, 7, 8);
        Due.is("look(2, 0) throws", Due.thrownByLook(x, 2, 0), Due.INDEX);
        Due.is("seen through", x.sees(9, 10, 11, 12), 1);
        Due.is("not met", x.ray(9, 10, 1, 1), 0);
        Due.is("piece", x.piece(-1, -2, -3, -4), 2);
        Due.look(x, 2, -1, -2, -3, -4);
    }

    private static void dropTakesTheTree() {
        Due.sentence("Promise 3, there is no TREE then");
        CutTrees x = Make.toldCross();
        Due.is("drop()", x.drop(), 1);
        Due.noTree(x, 1);
        CutTrees last = Make.of(0, 0, 1, 0);
        Due.is("build", last.build(0, 0), 1);
        Due.is("order", last.order(0, 0), 1);
        Due.is("drop()", last.drop(), 0);
        Due.noTree(last, 0);
    }

    private static void refusedDropLeavesTheTree() {
        Due.sentence("Promise 3, a refused drop changes nothing");
        CutTrees x = new CutTrees();
        Due.is("build", x.build(0, 0), 0);
        Due.is("drop()", x.drop(), NONE);
        Due.counts(x, 0, 0, 0, 1, 0, 0);
        Due.is("where", x.where(0, 0), 0);
        Due.is("order", x.order(0, 0), 0);
    }

    private static void lookAtNoSuchPiece() {
        Due.sentence("Promise 4, IndexOutOfBoundsException: no such PIECE");
        CutTrees x = Make.toldCross();
        int[] noPiece = {LEAST_INT, -1, 2, 3, 23, 24, 25, 256, LARGEST_INT};
        for (int wrong : noPiece) {
            for (int what = 0; what <= 4; what++) {
                Due.is("look(" + wrong + ", " + what + ") throws", Due.thrownByLook(x, wrong, what), Due.INDEX);
            }
        }
        Due.stillToldCross(x);
        CutTrees full = Make.level(24);
        Due.is("look(23, 0) throws", Due.thrownByLook(full, 23, 0), Due.NOTHING);
        Due.is("look(24, 0) throws", Due.thrownByLook(full, 24, 0), Due.INDEX);
    }

    private static void lookAtNoSuchWhat() {
        Due.sentence("Promise 4, NoSuchElementException: no such what");
        CutTrees x = Make.toldCross();
        int[] noWhat = {LEAST_INT, -1, 5, 6, 7, 8, 256, LARGEST_INT};
        for (int wrong : noWhat) {
            Due.is("look(0, " + wrong + ") throws", Due.thrownByLook(x, 0, wrong), Due.ELEMENT);
            Due.is("look(1, " + wrong + ") throws", Due.thrownByLook(x, 1, wrong), Due.ELEMENT);
        }
        Due.stillToldCross(x);
    }

    private static void lookWithBothWrong() {
        Due.sentence("Promise 4, neither such a PIECE nor such a what");
        CutTrees x = Make.toldCross();
        Due.is("look(-1, -1) throws", Due.thrownByLook(x, -1, -1), Due.INDEX);
        Due.is("look(2, 5) throws", Due.thrownByLook(x, 2, 5), Due.INDEX);
        Due.is("look of none throws", Due.thrownByLook(new CutTrees(), 0, 5), Due.INDEX);
    }

    private static void partsOfAPiece() {
        Due.sentence("Promise 4, its PARTS in the TREE");
        CutTrees x = Make.most();
        Due.is("build", x.build(0, 0), 300);
        for (int i = 0; i < 24; i++) {
            Due.is("cut by all ahead of it, look(" + i + ", 4)", x.look(i, 4), i + 1);
        }
        Due.is("a refused build", x.build(4, 0), NONE);
        Due.is("look(23, 4)", x.look(23, 4), 24);
        CutTrees line = Make.inLine(24);
        Due.is("build", line.build(0, 0), 1);
        for (int i = 0; i < 24; i++) {
            Due.is("not cut, look(" + i + ", 4)", line.look(i, 4), 1);
        }
    }

    private static void partsOfAPieceWithoutTree() {
        Due.sentence("Promise 4, 0 without");
        CutTrees x = Make.of(0, 0, 10, 0, 5, -5, 5, 5);
        Due.is("look(1, 4)", x.look(1, 4), 0);
        x.build(0, 0);
        Due.is("look(1, 4)", x.look(1, 4), 2);
        x.piece(20, 20, 30, 30);
        Due.is("look(1, 4)", x.look(1, 4), 0);
        Due.is("look(2, 4)", x.look(2, 4), 0);
        x.build(0, 0);
        x.drop();
        Due.is("look(1, 4)", x.look(1, 4), 0);
    }
}
