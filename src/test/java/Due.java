/** Compares answers with those that are due, and ends a test with exit code 1 if one was wrong. */
final class Due {
    static final int NOTHING = 0;
    static final int INDEX = 1;
    static final int ELEMENT = 2;

    /** Beyond -1000 .. 1000; cut down to 16 bits, or made positive by Math.abs, some would not be. */
    static final int[] BEYOND = {Integer.MIN_VALUE, -65_536, -1001, 1001, 65_536, Integer.MAX_VALUE};

    private static int wrong = 0;
    private static int asked = 0;
    private static String sentence = "";

    private Due() {
    }

    /** Of what sentence of the document the answers that follow are. */
    static void sentence(String told) {
        sentence = told + ": ";
    }

    static void is(String call, long got, long want) {
        asked++;
        if (got != want) {
            wrong++;
            System.out.println(sentence + call + " answered " + got + ", due is " + want);
        }
    }

    static void look(CutTrees x, int piece, long... wants) {
        for (int what = 0; what < wants.length; what++) {
            is("look(" + piece + ", " + what + ")", x.look(piece, what), wants[what]);
        }
    }

    static void knot(CutTrees x, int knot, long... wants) {
        for (int what = 0; what < wants.length; what++) {
            is("knot(" + knot + ", " + what + ")", x.knot(knot, what), wants[what]);
        }
    }

    static void part(CutTrees x, int part, long... wants) {
        for (int what = 0; what < wants.length; what++) {
            is("part(" + part + ", " + what + ")", x.part(part, what), wants[what]);
        }
    }

    /** count(0), count(1) and on. */
    static void counts(CutTrees x, long... wants) {
        for (int what = 0; what < wants.length; what++) {
            is("count(" + what + ")", x.count(what), wants[what]);
        }
    }

    /** The parts that are told, and that no other is. */
    static void told(CutTrees x, long... wants) {
        for (int k = 0; k < wants.length; k++) {
            is("told(" + k + ")", x.told(k), wants[k]);
        }
        is("told(-1)", x.told(-1), CutTrees.NONE);
        is("told(" + wants.length + ")", x.told(wants.length), CutTrees.NONE);
    }

    /** That there is no tree, by every call that would tell of one. */
    static void noTree(CutTrees x, int pieces) {
        counts(x, pieces, 0, 0, 0, 0, 0);
        is("where(0, 0)", x.where(0, 0), CutTrees.NONE);
        is("order(0, 0)", x.order(0, 0), CutTrees.NONE);
        told(x);
        for (int p = 0; p < pieces; p++) {
            is("look(" + p + ", 4)", x.look(p, 4), 0);
        }
        is("knot(0, 0) throws", thrownByKnot(x, 0, 0), INDEX);
        is("part(0, 0) throws", thrownByPart(x, 0, 0), INDEX);
    }

    /** That the tree of Make.toldCross() stands and its parts are told as they were. */
    static void stillToldCross(CutTrees x) {
        counts(x, 2, 3, 3, 4, 2, 1);
        knot(x, 0, 0, 1, 0, 1, 2, CutTrees.NONE);
        is("where(9, -5)", x.where(9, -5), 3);
        told(x, 2, 0, 1);
    }

    /** What is met, three numbers for each, and that no other is. */
    static void met(CutTrees x, long... wants) {
        for (int i = 0; i < wants.length; i++) {
            is("met(" + i / 3 + ", " + i % 3 + ")", x.met(i / 3, i % 3), wants[i]);
        }
        for (int what = -1; what <= 3; what++) {
            is("met(-1, " + what + ")", x.met(-1, what), CutTrees.NONE);
            is("met(behind the last, " + what + ")", x.met(wants.length / 3, what), CutTrees.NONE);
        }
    }

    static int thrownByLook(CutTrees x, int piece, int what) {
        try {
            x.look(piece, what);
            return NOTHING;
        } catch (RuntimeException e) {
            return kindOf(e);
        }
    }

    static int thrownByKnot(CutTrees x, int knot, int what) {
        try {
            x.knot(knot, what);
            return NOTHING;
        } catch (RuntimeException e) {
            return kindOf(e);
        }
    }

    static int thrownByPart(CutTrees x, int part, int what) {
        try {
            x.part(part, what);
            return NOTHING;
        } catch (RuntimeException e) {
            return kindOf(e);
        }
    }

    // The very classes: one below them would be what the machine throws.
    private static int kindOf(RuntimeException e) {
        if (e.getClass() == IndexOutOfBoundsException.class) {
            return INDEX;
        }
        return e.getClass() == java.util.NoSuchElementException.class ? ELEMENT : 3;
    }

    static void end() {
        System.out.println(wrong == 0 ? asked + " answers are as due" : wrong + " of " + asked + " are not as due");
        if (wrong != 0) {
            System.exit(1);
        }
    }
}
