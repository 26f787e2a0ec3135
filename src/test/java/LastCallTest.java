/** An object is used for at most 512 calls: up to the last of them it answers as it did at first. */
public final class LastCallTest {
    private static final int CALLS = 512;

    public static void main(String[] args) {
        comeAndGo();
        dearestCalls();
        everyCallRefused();
        Due.end();
    }

    private static void comeAndGo() {
        Due.sentence("24 come and go until the 512th call");
        CutTrees x = new CutTrees();
        int calls = 0;
        while (calls < CALLS) {
            for (int i = 0; i < 24 && calls < CALLS; i++, calls++) {
                Due.is("piece at call " + calls, x.piece(0, i, 10, i), i);
            }
            for (int i = 23; i >= 0 && calls < CALLS; i--, calls++) {
                Due.is("drop at call " + calls, x.drop(), i);
            }
        }
    }

    private static void dearestCalls() {
        Due.sentence("the dearest calls until the 512th");
        CutTrees six = Make.tangents(0, 6);
        for (int call = 6; call < CALLS; call++) {
            Due.is("sum at call " + call, six.sum(), 720 * 21);
        }
        CutTrees five = Make.tangents(0, 5);
        for (int call = 5; call < CALLS; call++) {
            Due.is("least at call " + call, five.least(), 15);
        }
        CutTrees most = Make.most();
        for (int call = 24; call < CALLS; call++) {
            int answer = call % 2 == 0 ? most.build(call / 2 % 4, call) : most.order(call, 0);
            Due.is("build or order at call " + call, answer, 300);
        }
    }

    private static void everyCallRefused() {
        Due.sentence("refused calls, and what stands behind them");
        CutTrees x = Make.toldCross();
        for (int call = 4; call < CALLS - 30; call++) {
            switch (call % 8) {
                case 0 -> Due.is("piece", x.piece(1, 1, 1, 1), CutTrees.NONE);
                case 1 -> Due.is("build", x.build(4, 0), CutTrees.NONE);
                case 2 -> Due.is("look", Due.thrownByLook(x, 2, 0), Due.INDEX);
                case 3 -> Due.is("knot", Due.thrownByKnot(x, 0, 6), Due.ELEMENT);
                case 4 -> Due.is("part", Due.thrownByPart(x, 3, 0), Due.INDEX);
                case 5 -> Due.is("order", x.order(1001, 0), CutTrees.NONE);
                case 6 -> Due.is("ray", x.ray(0, 0, 0, 0), CutTrees.NONE);
                default -> Due.is("sees", x.sees(0, 0, 0, -1001), CutTrees.NONE);
            }
        }
        Due.stillToldCross(x);
    }
}
