import java.util.Random;

/** Drawn runs of calls, each answer compared with the model's. The seeds are fixed. */
public final class ModelRunsTest {
    private static final int RUNS = 400;
    private static final int[] REACHES = {2, 4, 10, 60, 1000};

    private final Random random;
    private final int run;
    private final int reach;
    private final CutTrees x = new CutTrees();
    private final Model m = new Model();

    private ModelRunsTest(int run) {
        this.run = run;
        random = new Random(run);
        reach = REACHES[run % REACHES.length];
    }

    public static void main(String[] args) {
        for (int run = 0; run < RUNS; run++) {
            new ModelRunsTest(run).calls();
        }
        Due.end();
    }

    private void due(String call, long got, long want) {
        Due.is("run " + run + ": " + call, got, want);
    }

    private int value() {
        return random.nextInt(40) == 0 ? (random.nextBoolean() ? 1001 : -1001) : random.nextInt(2 * reach + 1) - reach;
    }

    private void calls() {
        int most = random.nextInt(4) == 0 ? 26 : 1 + random.nextInt(8);
        for (int call = 0; call < 40; call++) {
            int kind = random.nextInt(10);
            if (kind < 3 || m.pieces.size() < most && kind < 6) {
                comePieces(most);
            } else if (kind == 6 && random.nextInt(3) == 0) {
                due("drop()", x.drop(), m.drop());
            } else if (kind == 7) {
                int rule = random.nextInt(6) - 1;
                int seed = random.nextInt();
                due("build(" + rule + ", " + seed + ")", x.build(rule, seed), m.build(rule, seed));
                allOfTheTree();
            } else {
                places();
            }
            rows();
        }
        due("least()", x.least(), m.least());
        // The model takes long for six.
        if (m.pieces.size() != 6 || run % 10 == 0) {
            due("sum()", x.sum(), m.sum());
        }
        allOfTheTree();
    }

    private void comePieces(int most) {
        int many = 1 + random.nextInt(most > 24 ? 12 : 3);
        for (int i = 0; i < many && m.pieces.size() < most && (most > 24 || m.pieces.size() < 24); i++) {
            int a = value();
            int b = value();
            int c = value();
            int d = value();
            due("piece(" + a + ", " + b + ", " + c + ", " + d + ")", x.piece(a, b, c, d), m.piece(a, b, c, d));
        }
    }

    private void places() {
        int a = value();
        int b = value();
        int c = value();
        int d = value();
        due("where(" + a + ", " + b + ")", x.where(a, b), m.where(a, b));
        due("order(" + a + ", " + b + ")", x.order(a, b), m.order(a, b));
        due("sees(" + a + ", " + b + ", " + c + ", " + d + ")", x.sees(a, b, c, d), m.sees(a, b, c, d));
        due("sees(" + a + ", " + b + ", same)", x.sees(a, b, a, b), m.sees(a, b, a, b));
        due("ray(" + a + ", " + b + ", " + c + ", " + d + ")", x.ray(a, b, c, d), m.ray(a, b, c, d));
    }

    private void rows() {
        for (int k = -1; k <= m.told.size(); k++) {
            due("told(" + k + ")", x.told(k), m.told(k));
        }
        for (int k = -1; k <= m.hits.size(); k++) {
            for (int what = -1; what <= 3; what++) {
                due("met(" + k + ", " + what + ")", x.met(k, what), m.met(k, what));
            }
        }
    }

    private void allOfTheTree() {
        for (int what = -1; what <= 6; what++) {
            due("count(" + what + ")", x.count(what), m.count(what));
        }
        for (int i = -1; i <= m.pieces.size(); i++) {
            boolean there = i >= 0 && i < m.pieces.size();
            for (int what = -1; what <= 5; what++) {
                int thrown = !there ? Due.INDEX : what < 0 || what > 4 ? Due.ELEMENT : Due.NOTHING;
                due("look(" + i + ", " + what + ") throws", Due.thrownByLook(x, i, what), thrown);
                if (thrown == Due.NOTHING) {
                    due("look(" + i + ", " + what + ")", x.look(i, what), m.look(i, what));
                }
            }
        }
        for (int i = -1; i <= m.knots.size(); i++) {
            boolean there = i >= 0 && i < m.knots.size();
            for (int what = -1; what <= 6; what++) {
                int thrown = !there ? Due.INDEX : what < 0 || what > 5 ? Due.ELEMENT : Due.NOTHING;
                due("knot(" + i + ", " + what + ") throws", Due.thrownByKnot(x, i, what), thrown);
                if (thrown == Due.NOTHING) {
                    due("knot(" + i + ", " + what + ")", x.knot(i, what), m.knot(i, what));
                }
            }
        }
        for (int i = -1; i <= m.parts.size(); i++) {
            boolean there = i >= 0 && i < m.parts.size();
            for (int what = -1; what <= 8; what++) {
                int thrown = !there ? Due.INDEX : what < 0 || what > 7 ? Due.ELEMENT : Due.NOTHING;
                due("part(" + i + ", " + what + ") throws", Due.thrownByPart(x, i, what), thrown);
                if (thrown == Due.NOTHING) {
                    due("part(" + i + ", " + what + ")", x.part(i, what), m.part(i, what));
                }
            }
        }
    }
}
