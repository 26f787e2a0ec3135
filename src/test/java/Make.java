/** Objects of the class with pieces that several tests want. */
final class Make {
    private Make() {
    }

    static CutTrees of(int... corners) {
        CutTrees x = new CutTrees();
        for (int i = 0; i + 3 < corners.length; i += 4) {
            Due.is("piece", x.piece(corners[i], corners[i + 1], corners[i + 2], corners[i + 3]), i / 4);
        }
        return x;
    }

    /** Level pieces, one above another, each with those above it in front. */
    static CutTrees level(int many) {
        CutTrees x = new CutTrees();
        for (int i = 0; i < many; i++) {
            Due.is("piece", x.piece(0, i, 10, i), i);
        }
        return x;
    }

    /** Pieces on one line, one behind another. */
    static CutTrees inLine(int many) {
        CutTrees x = new CutTrees();
        for (int i = 0; i < many; i++) {
            Due.is("piece", x.piece(10 * i, 0, 10 * i + 5, 0), i);
        }
        return x;
    }

    /** Any two cross, no three at one place: the lines touch a parabola. */
    static CutTrees tangents(int first, int many) {
        CutTrees x = new CutTrees();
        for (int i = first; i < first + many; i++) {
            Due.is("piece", x.piece(-15, -30 * i - i * i, 15, 30 * i - i * i), i - first);
        }
        return x;
    }

    /** 24 pieces that make 300 parts by any rule. */
    static CutTrees most() {
        return tangents(-12, 24);
    }

    /** All cross at one place. */
    static CutTrees star(int many) {
        CutTrees x = new CutTrees();
        for (int i = 0; i < many; i++) {
            Due.is("piece", x.piece(-10, -i, 10, i), i);
        }
        return x;
    }

    /** A cross of two pieces, with its tree by rule 0 and the parts told from 0, 5 as 2, 0, 1. */
    static CutTrees toldCross() {
        CutTrees x = of(0, 0, 10, 0, 5, -5, 5, 5);
        Due.is("build", x.build(0, 0), 3);
        Due.is("order", x.order(0, 5), 3);
        return x;
    }
}
