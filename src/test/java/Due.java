/** Compares answers with those that are due, and ends a test with exit code 1 if one was wrong. */
final class Due {
    static final int NOTHING = 0;
    static final int INDEX = 1;
    static final int ELEMENT = 2;

    private static int wrong = 0;
    private static int asked = 0;

    private Due() {
    }

    static void is(String call, long got, long want) {
        asked++;
        if (got != want) {
            wrong++;
            System.out.println(call + " answered " + got + ", due is " + want);
        }
    }

    static void look(CutTrees x, int piece, long... wants) {
        for (int what = 0; what < wants.length; what++) {
            is("look(" + piece + ", " + what + ")", x.look(piece, what), wants[what]);
        }
    }

    static void knot(CutTrees x, int knot, long... wants) {
        for (int what = 0; what < wants.length; what++) {
            is("knot(" + knot + ", " + what + ")", x.knot(knot, what), wants[what]);
        }
    }

    static void part(CutTrees x, int part, long... wants) {
        for (int what = 0; what < wants.length; what++) {
            is("part(" + part + ", " + what + ")", x.part(part, what), wants[what]);
        }
    }

    /** count(0), count(1) and on. */
    static void counts(CutTrees x, long... wants) {
        for (int what = 0; what < wants.length; what++) {
            is("count(" + what + ")", x.count(what), wants[what]);
        }
    }

    /** The parts that are told, and that no other is. */
    static void told(CutTrees x, long... wants) {
        for (int k = 0; k < wants.length; k++) {
            is("told(" + k + ")", x.told(k), wants[k]);
        }
        is("told(-1)", x.told(-1), CutTrees.NONE);
        is("told(" + wants.length + ")", x.told(wants.length), CutTrees.NONE);
    }

    /** What is met, three numbers for each, and that no other is. */
    static void met(CutTrees x, long... wants) {
        for (int i = 0; i < wants.length; i++) {
            is("met(" + i / 3 + ", " + i % 3 + ")", x.met(i / 3, i % 3), wants[i]);
        }
        for (int what = -1; what <= 3; what++) {
            is("met(-1, " + what + ")", x.met(-1, what), CutTrees.NONE);
            is("met(behind the last, " + what + ")", x.met(wants.length / 3, what), CutTrees.NONE);
        }
    }

    static int thrownByLook(CutTrees x, int piece, int what) {
        try {
            x.look(piece, what);
            return NOTHING;
        } catch (RuntimeException e) {
            return kindOf(e);
        }
    }

    static int thrownByKnot(CutTrees x, int knot, int what) {
        try {
            x.knot(knot, what);
            return NOTHING;
        } catch (RuntimeException e) {
            return kindOf(e);
        }
    }

    static int thrownByPart(CutTrees x, int part, int what) {
        try {
            x.part(part, what);
            return NOTHING;
        } catch (RuntimeException e) {
            return kindOf(e);
        }
    }

    // The very classes: one below them would be what the machine throws.
    private static int kindOf(RuntimeException e) {
        if (e.getClass() == IndexOutOfBoundsException.class) {
            return INDEX;
        }
        return e.getClass() == java.util.NoSuchElementException.class ? ELEMENT : 3;
    }

    static void end() {
        System.out.println(wrong == 0 ? asked + " answers are as due" : wrong + " of " + asked + " are not as due");
        if (wrong != 0) {
            System.exit(1);
        }
    }
}
