import java.util.NoSuchElementException;

/** Straight pieces in a plane, the trees that their lines cut them into, and what is seen among them. */
public final class CutTrees {
    public static final int NONE = -1;

    private static final int FARTHEST = 1000;
    private static final int MOST_PIECES = 24;
    private static final int MOST_FOR_LEAST = 5;
    private static final int MOST_FOR_SUM = 6;

    // Two lines cross at one place, and the line that comes first there takes its own piece out of
    // the row: so there is at most one cut for any two pieces.
    private static final int MOST_PARTS = MOST_PIECES + MOST_PIECES * (MOST_PIECES - 1) / 2;

    private static final int FIRST_PART = 0;
    private static final int FEWEST_CUTS = 1;
    private static final int DRAWN = 2;
    private static final int LEAST_UNLIKE = 3;

    // Bits, so that a part with places on both sides has both of them.
    private static final int FRONT = 1;
    private static final int BACK = 2;
    private static final int BOTH = 3;

    private final Pieces pieces;
    private final Tree tree;
    private final Telling telling;
    private final Meetings meetings;
    private final Reckoner reckoner;

    public CutTrees() {
        pieces = new Pieces();
        Cutter cutter = new Cutter(pieces);
        tree = new Tree(pieces, cutter);
        telling = new Telling(pieces, tree);
        meetings = new Meetings(pieces);
        reckoner = new Reckoner(pieces, cutter);
    }

    public int piece(int x0, int y0, int x1, int y1) {
        boolean alike = x0 == x1 && y0 == y1;
        if (pieces.size >= MOST_PIECES || alike || isBeyond(x0, y0) || isBeyond(x1, y1)) {
            return NONE;
        }
        forgetTree();
        pieces.add(x0, y0, x1, y1);
        return pieces.size - 1;
    }

    public int drop() {
        if (pieces.size <= 0) {
            return NONE;
        }
        forgetTree();
        pieces.size--;
        return pieces.size;
    }

    public int look(int piece, int what) throws IndexOutOfBoundsException, NoSuchElementException {
        if (piece < 0 || piece >= pieces.size) {
            throw new IndexOutOfBoundsException("no such piece");
        }
        switch (what) {
            case 0:
                return pieces.x0[piece];
            case 1:
                return pieces.y0[piece];
            case 2:
                return pieces.x1[piece];
            case 3:
                return pieces.y1[piece];
            case 4:
                return tree.parts.howManyOf(piece);
            default:
                throw new NoSuchElementException("no such what");
        }
    }

    public int build(int rule, int seed) {
        if (rule < FIRST_PART || rule > LEAST_UNLIKE) {
            return NONE;
        }
        forgetTree();
        tree.raise(rule, seed);
        return tree.knots;
    }

    public int count(int what) {
        switch (what) {
            case 0:
                return pieces.size;
            case 1:
                return tree.knots;
            case 2:
                return tree.parts.size;
            case 3:
                return tree.leaves;
            case 4:
                return tree.height;
            case 5:
                return tree.stands ? tree.parts.size - pieces.size : 0;
            default:
                return NONE;
        }
    }

    public int knot(int knot, int what) throws IndexOutOfBoundsException, NoSuchElementException {
        if (knot < 0 || knot >= tree.knots) {
            throw new IndexOutOfBoundsException("no such knot");
        }
        switch (what) {
            case 0:
                return tree.line[knot];
            case 1:
                return tree.held[knot];
            case 2:
                return tree.firstHeld[knot];
            case 3:
                return tree.front[knot];
            case 4:
                return tree.back[knot];
            case 5:
                return tree.above[knot];
            default:
                throw new NoSuchElementException("no such what");
        }
    }

    public long part(int part, int what) throws IndexOutOfBoundsException, NoSuchElementException {
        Parts parts = tree.parts;
        if (part < 0 || part >= parts.size) {
            throw new IndexOutOfBoundsException("no such part");
        }
        switch (what) {
            case 0:
                return parts.owner[part];
            case 1:
            case 2:
            case 3:
                return pieces.placeAt(parts.owner[part], parts.n0[part], parts.d0[part], what - 1);
            case 4:
            case 5:
            case 6:
                return pieces.placeAt(parts.owner[part], parts.n1[part], parts.d1[part], what - 4);
            case 7:
                return tree.home[part];
            default:
                throw new NoSuchElementException("no such what");
        }
    }

    public int where(int x, int y) {
        if (!tree.stands || isBeyond(x, y)) {
            return NONE;
        }
        return tree.placeOf(x, y);
    }

    public int order(int x, int y) {
        if (!tree.stands || isBeyond(x, y)) {
            return NONE;
        }
        telling.tellFrom(x, y);
        return telling.size;
    }

    public int told(int k) {
        return k >= 0 && k < telling.size ? telling.row[k] : NONE;
    }

    public int sees(int x0, int y0, int x1, int y1) {
        if (isBeyond(x0, y0) || isBeyond(x1, y1)) {
            return NONE;
        }
        for (int p = 0; p < pieces.size; p++) {
            if (pieces.blocks(p, x0, y0, x1, y1)) {
                return 0;
            }
        }
        return 1;
    }

    public int ray(int x, int y, int dx, int dy) {
        boolean still = dx == 0 && dy == 0;
        if (still || isBeyond(x, y) || isBeyond(dx, dy)) {
            return NONE;
        }
        meetings.meetAll(x, y, dx, dy);
        return meetings.size;
    }

    public int met(int k, int what) {
        if (k < 0 || k >= meetings.size) {
            return NONE;
        }
        switch (what) {
            case 0:
                return meetings.which[k];
            case 1:
                return meetings.n[k];
            case 2:
                return meetings.d[k];
            default:
                return NONE;
        }
    }

    public int least() {
        return pieces.size > MOST_FOR_LEAST ? NONE : reckoner.fewestOfAllTrees();
    }

    public int sum() {
        return pieces.size > MOST_FOR_SUM ? NONE : reckoner.partsOverAllOrders();
    }

    private void forgetTree() {
        tree.fell();
        telling.size = 0;
    }

    // Compared on both ends and not by Math.abs, whose answer for the least int is below 0.
    private static boolean isBeyond(int x, int y) {
        return x < -FARTHEST || x > FARTHEST || y < -FARTHEST || y > FARTHEST;
    }

    private static long commonDivisor(long a, long b) {
        long large = Math.abs(a);
        long small = Math.abs(b);
        // Each two steps halve the larger number, so 64 bits need fewer than 128.
        for (int step = 0; step < 128 && small != 0; step++) {
            long rest = large % small;
            large = small;
            small = rest;
        }
        return large;
    }

    private static final class Pieces {
        final int[] x0 = new int[MOST_PIECES];
        final int[] y0 = new int[MOST_PIECES];
        final int[] x1 = new int[MOST_PIECES];
        final int[] y1 = new int[MOST_PIECES];
        int size;

        void add(int fromX, int fromY, int toX, int toY) {
            if (size >= MOST_PIECES) {
                return;
            }
            x0[size] = fromX;
            y0[size] = fromY;
            x1[size] = toX;
            y1[size] = toY;
            size++;
        }

        /** Above 0 in front of the line of a piece, below 0 in back; at most 8 million either way. */
        int sideOf(int line, int x, int y) {
            return (x1[line] - x0[line]) * (y - y0[line]) - (y1[line] - y0[line]) * (x - x0[line]);
        }

        static int cross(int ax, int ay, int bx, int by) {
            return ax * by - ay * bx;
        }

        /** X, Y or W (0, 1, 2), without a common divisor, of the place n / d along a piece. */
        long placeAt(int piece, int n, int d, int which) {
            long x = (long) x0[piece] * (d - n) + (long) x1[piece] * n;
            long y = (long) y0[piece] * (d - n) + (long) y1[piece] * n;
            long shared = commonDivisor(commonDivisor(x, y), d);
            if (shared <= 0) {
                shared = 1;
            }
            return (which == 0 ? x : which == 1 ? y : d) / shared;
        }

        /** Whether the straight way, its ends too, comes to a piece; the way may be a mere place. */
        boolean blocks(int piece, int fromX, int fromY, int toX, int toY) {
            // The two tests of sides say nothing where all four places are on one line: there, and
            // for a way that is a mere place, the frames decide.
            return framesMeet(x0[piece], x1[piece], fromX, toX)
                && framesMeet(y0[piece], y1[piece], fromY, toY)
                && !sameSide(sideOf(piece, fromX, fromY), sideOf(piece, toX, toY))
                && !sameSide(
                    cross(toX - fromX, toY - fromY, x0[piece] - fromX, y0[piece] - fromY),
                    cross(toX - fromX, toY - fromY, x1[piece] - fromX, y1[piece] - fromY));
        }

        static boolean framesMeet(int a0, int a1, int b0, int b1) {
            return Math.max(a0, a1) >= Math.min(b0, b1) && Math.max(b0, b1) >= Math.min(a0, a1);
        }

        static boolean sameSide(int a, int b) {
            return a > 0 && b > 0 || a < 0 && b < 0;
        }
    }

    /** A row of parts: of which piece each is, and its ends as fractions n / d of the way along it. */
    private static final class Parts {
        final int[] owner = new int[MOST_PARTS];
        final int[] n0 = new int[MOST_PARTS];
        final int[] d0 = new int[MOST_PARTS];
        final int[] n1 = new int[MOST_PARTS];
        final int[] d1 = new int[MOST_PARTS];
        int size;

        void addWhole(int piece) {
            add(piece, 0, 1, 1, 1);
        }

        void addCopy(Parts from, int p) {
            add(from.owner[p], from.n0[p], from.d0[p], from.n1[p], from.d1[p]);
        }

        void add(int piece, int fromN, int fromD, int toN, int toD) {
            if (size >= MOST_PARTS) {
                return;
            }
            owner[size] = piece;
            n0[size] = fromN;
            d0[size] = fromD;
            n1[size] = toN;
            d1[size] = toD;
            size++;
        }

        int howManyOf(int piece) {
            int many = 0;
            for (int p = 0; p < size; p++) {
                if (owner[p] == piece) {
                    many++;
                }
            }
            return many;
        }
    }

    /**
     * Cuts rows of parts by lines. The rows of the way down lie one behind another in one long row:
     * a row has at most one part of a piece and none of a line used above it, so that at 24, 23, ..
     * parts they all fit into MOST_PARTS.
     */
    private static final class Cutter {
        final Parts rows = new Parts();
        private final Pieces pieces;

        Cutter(Pieces pieces) {
            this.pieces = pieces;
        }

        void startWithAll() {
            rows.size = 0;
            for (int p = 0; p < pieces.size; p++) {
                rows.addWhole(p);
            }
        }

        /** On which sides of a line a part has places: 0, FRONT, BACK or BOTH. */
        int sides(int p, int line) {
            int piece = rows.owner[p];
            int atFirst = pieces.sideOf(line, pieces.x0[piece], pieces.y0[piece]);
            int atSecond = pieces.sideOf(line, pieces.x1[piece], pieces.y1[piece]);
            return sideBetween(atFirst, atSecond, rows.n0[p], rows.d0[p])
                | sideBetween(atFirst, atSecond, rows.n1[p], rows.d1[p]);
        }

        private static int sideBetween(int atFirst, int atSecond, int n, int d) {
            long side = (long) atFirst * (d - n) + (long) atSecond * n;
            return side > 0 ? FRONT : side < 0 ? BACK : 0;
        }

        /** Adds, behind all rows, the row of what a row has on one side of a line. */
        void addSideRow(int from, int to, int line, int side) {
            for (int p = from; p < to; p++) {
                int has = sides(p, line);
                if (has == BOTH) {
                    addHalf(p, line, side);
                } else if (has == side) {
                    rows.addCopy(rows, p);
                }
            }
        }

        private void addHalf(int p, int line, int side) {
            int piece = rows.owner[p];
            int atFirst = pieces.sideOf(line, pieces.x0[piece], pieces.y0[piece]);
            int atSecond = pieces.sideOf(line, pieces.x1[piece], pieces.y1[piece]);
            int n = Math.abs(atFirst);
            int d = n + Math.abs(atSecond);
            boolean frontIsFirst = atFirst > 0;
            if (frontIsFirst == (side == FRONT)) {
                rows.add(piece, rows.n0[p], rows.d0[p], n, d);
            } else {
                rows.add(piece, n, d, rows.n1[p], rows.d1[p]);
            }
        }
    }

    private static final class Tree {
        final int[] line = new int[MOST_PARTS];
        final int[] held = new int[MOST_PARTS];
        final int[] firstHeld = new int[MOST_PARTS];
        final int[] front = new int[MOST_PARTS];
        final int[] back = new int[MOST_PARTS];
        final int[] above = new int[MOST_PARTS];
        final Parts parts = new Parts();
        final int[] home = new int[MOST_PARTS];
        boolean stands;
        int top;
        int knots;
        int leaves;
        int height;
        private final Pieces pieces;
        private final Cutter cutter;
        private int rule;
        private int draw;

        Tree(Pieces pieces, Cutter cutter) {
            this.pieces = pieces;
            this.cutter = cutter;
        }

        void fell() {
            stands = false;
            knots = 0;
            leaves = 0;
            height = 0;
            parts.size = 0;
        }

        void raise(int byRule, int seed) {
            fell();
            rule = byRule;
            draw = seed;
            cutter.startWithAll();
            top = grow(0, cutter.rows.size, NONE, 0);
            stands = true;
        }

        /** Makes the tree of a row; answers a knot's number, or -2 less a leaf's. */
        private int grow(int from, int to, int upper, int depth) {
            if (from >= to || depth >= MOST_PIECES || knots >= MOST_PARTS) {
                leaves++;
                return -2 - (leaves - 1);
            }
            int knot = knots;
            knots++;
            height = Math.max(height, depth + 1);
            line[knot] = cutter.rows.owner[choose(from, to)];
            above[knot] = upper;
            hold(knot, from, to);
            front[knot] = growSide(from, to, knot, FRONT, depth);
            back[knot] = growSide(from, to, knot, BACK, depth);
            return knot;
        }

        private int growSide(int from, int to, int knot, int side, int depth) {
            int start = cutter.rows.size;
            cutter.addSideRow(from, to, line[knot], side);
            int below = grow(start, cutter.rows.size, knot, depth + 1);
            cutter.rows.size = start;
            return below;
        }

        private void hold(int knot, int from, int to) {
            firstHeld[knot] = parts.size;
            for (int p = from; p < to; p++) {
                if (parts.size < MOST_PARTS && cutter.sides(p, line[knot]) == 0) {
                    home[parts.size] = knot;
                    parts.addCopy(cutter.rows, p);
                }
            }
            held[knot] = parts.size - firstHeld[knot];
        }

        private int choose(int from, int to) {
            if (rule == FIRST_PART || to <= from) {
                return from;
            }
            if (rule == DRAWN) {
                draw = 1103515245 * draw + 12345;
                return from + (draw >> 16 & 32767) % (to - from);
            }
            int best = from;
            int bestFault = faultOf(from, from, to);
            for (int p = from + 1; p < to; p++) {
                int fault = faultOf(p, from, to);
                if (fault < bestFault) {
                    best = p;
                    bestFault = fault;
                }
            }
            return best;
        }

        /** How bad a part's line is for its row, by the rule; a smaller number is a better line. */
        private int faultOf(int part, int from, int to) {
            int inFront = 0;
            int inBack = 0;
            int cuts = 0;
            for (int p = from; p < to; p++) {
                int has = cutter.sides(p, cutter.rows.owner[part]);
                inFront += has == FRONT ? 1 : 0;
                inBack += has == BACK ? 1 : 0;
                cuts += has == BOTH ? 1 : 0;
            }
            if (rule == FEWEST_CUTS) {
                return cuts;
            }
            // What is cut goes to both sides and leaves their difference as it is. Cuts are at most
            // 23, so they only decide where the differences are alike.
            return Math.abs(inFront - inBack) * MOST_PIECES + cuts;
        }

        /** The number of the leaf that a place is in, or -2 less that of the first knot it is on. */
        int placeOf(int x, int y) {
            int node = top;
            for (int depth = 0; depth < MOST_PIECES && node >= 0 && node < knots; depth++) {
                int side = pieces.sideOf(line[node], x, y);
                if (side == 0) {
                    break;
                }
                node = side > 0 ? front[node] : back[node];
            }
            // Both ways are the same sum: a leaf stands in the tree as -2 less its number.
            return -2 - node;
        }
    }

    /** The parts of the tree from far to near. */
    private static final class Telling {
        final int[] row = new int[MOST_PARTS];
        int size;
        private final Pieces pieces;
        private final Tree tree;

        Telling(Pieces pieces, Tree tree) {
            this.pieces = pieces;
            this.tree = tree;
        }

        void tellFrom(int x, int y) {
            size = 0;
            tellNode(tree.top, x, y, 0);
        }

        private void tellNode(int node, int x, int y, int depth) {
            if (node < 0 || node >= tree.knots || depth >= MOST_PIECES) {
                return;
            }
            boolean inFront = pieces.sideOf(tree.line[node], x, y) > 0;
            tellNode(inFront ? tree.back[node] : tree.front[node], x, y, depth + 1);
            for (int k = 0; k < tree.held[node] && size < MOST_PARTS; k++) {
                row[size] = tree.firstHeld[node] + k;
                size++;
            }
            tellNode(inFront ? tree.front[node] : tree.back[node], x, y, depth + 1);
        }
    }

    /** What the latest ray met, in order; it outlives the pieces that it tells of. */
    private static final class Meetings {
        final int[] which = new int[MOST_PIECES];
        final int[] n = new int[MOST_PIECES];
        final int[] d = new int[MOST_PIECES];
        int size;
        private final Pieces pieces;

        Meetings(Pieces pieces) {
            this.pieces = pieces;
        }

        void meetAll(int x, int y, int dx, int dy) {
            size = 0;
            for (int p = 0; p < pieces.size; p++) {
                meetOne(p, x, y, dx, dy);
            }
        }

        private void meetOne(int p, int x, int y, int dx, int dy) {
            int alongX = pieces.x1[p] - pieces.x0[p];
            int alongY = pieces.y1[p] - pieces.y0[p];
            int toX = pieces.x0[p] - x;
            int toY = pieces.y0[p] - y;
            int slant = Pieces.cross(dx, dy, alongX, alongY);
            int offRay = Pieces.cross(toX, toY, dx, dy);
            if (slant != 0) {
                int turn = slant > 0 ? 1 : -1;
                int onPiece = turn * offRay;
                int onRay = turn * Pieces.cross(toX, toY, alongX, alongY);
                if (onRay >= 0 && onPiece >= 0 && onPiece <= turn * slant) {
                    insert(p, onRay, turn * slant);
                }
            } else if (offRay == 0) {
                int atFirst = toX * dx + toY * dy;
                int atSecond = atFirst + alongX * dx + alongY * dy;
                if (atFirst >= 0 || atSecond >= 0) {
                    insert(p, Math.max(0, Math.min(atFirst, atSecond)), dx * dx + dy * dy);
                }
            }
        }

        /** Puts a piece behind all that are met no later: pieces come in order, and so they stay. */
        private void insert(int p, int numerator, int denominator) {
            if (size >= MOST_PIECES) {
                return;
            }
            int at = size;
            while (at > 0 && isLater(at - 1, numerator, denominator)) {
                which[at] = which[at - 1];
                n[at] = n[at - 1];
                d[at] = d[at - 1];
                at--;
            }
            int shared = (int) commonDivisor(numerator, denominator);
            if (shared <= 0) {
                shared = 1;
            }
            which[at] = p;
            n[at] = numerator / shared;
            d[at] = denominator / shared;
            size++;
        }

        private boolean isLater(int k, int numerator, int denominator) {
            return (long) n[k] * denominator > (long) numerator * d[k];
        }
    }

    /** Counts the parts of trees that are not kept. */
    private static final class Reckoner {
        private final Pieces pieces;
        private final Cutter cutter;
        private final int[] sequence = new int[MOST_FOR_SUM];

        Reckoner(Pieces pieces, Cutter cutter) {
            this.pieces = pieces;
            this.cutter = cutter;
        }

        int fewestOfAllTrees() {
            cutter.startWithAll();
            return fewest(0, cutter.rows.size, false, 0);
        }

        int partsOverAllOrders() {
            int many = Math.min(pieces.size, MOST_FOR_SUM);
            int orders = 1;
            for (int i = 2; i <= many; i++) {
                orders *= i;
            }
            int total = 0;
            for (int number = 0; number < orders; number++) {
                setSequence(number, many);
                cutter.rows.size = 0;
                for (int i = 0; i < many; i++) {
                    cutter.rows.addWhole(sequence[i]);
                }
                total += fewest(0, many, true, 0);
            }
            return total;
        }

        /** Each number below the count of all orders stands for another one of them. */
        private void setSequence(int number, int many) {
            for (int i = 0; i < many; i++) {
                sequence[i] = i;
            }
            int left = number;
            for (int i = many - 1; i > 0; i--) {
                int other = left % (i + 1);
                left /= i + 1;
                int kept = sequence[i];
                sequence[i] = sequence[other];
                sequence[other] = kept;
            }
        }

        /** The fewest parts of the trees of a row that take any part's line, or only the first's. */
        private int fewest(int from, int to, boolean firstOnly, int depth) {
            if (from >= to || depth >= MOST_FOR_SUM) {
                return 0;
            }
            int end = firstOnly ? from + 1 : to;
            int best = MOST_PARTS;
            for (int p = from; p < end; p++) {
                int line = cutter.rows.owner[p];
                int parts = howManyOn(from, to, line);
                for (int side = FRONT; side <= BACK; side++) {
                    int start = cutter.rows.size;
                    cutter.addSideRow(from, to, line, side);
                    parts += fewest(start, cutter.rows.size, firstOnly, depth + 1);
                    cutter.rows.size = start;
                }
                best = Math.min(best, parts);
            }
            return best;
        }

        private int howManyOn(int from, int to, int line) {
            int many = 0;
            for (int p = from; p < to; p++) {
                if (cutter.sides(p, line) == 0) {
                    many++;
                }
            }
            return many;
        }
    }
}
