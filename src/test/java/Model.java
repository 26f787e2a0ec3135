import java.math.BigInteger;
import java.util.ArrayList;
import java.util.List;

/** The document once more, with lists and fractions of any size, to compare with; never fast. */
final class Model {
    /** A fraction in lowest terms, its denominator above 0. */
    record Fraction(BigInteger n, BigInteger d) implements Comparable<Fraction> {
        static Fraction of(BigInteger n, BigInteger d) {
            BigInteger g = n.gcd(d).multiply(BigInteger.valueOf(d.signum()));
            return new Fraction(n.divide(g), d.divide(g));
        }

        static Fraction of(long n) {
            return new Fraction(BigInteger.valueOf(n), BigInteger.ONE);
        }

        Fraction plus(Fraction o) {
            return of(n.multiply(o.d).add(o.n.multiply(d)), d.multiply(o.d));
        }

        Fraction minus(Fraction o) {
            return plus(of(o.n.negate(), o.d));
        }

        Fraction times(Fraction o) {
            return of(n.multiply(o.n), d.multiply(o.d));
        }

        Fraction over(Fraction o) {
            return of(n.multiply(o.d), d.multiply(o.n));
        }

        int sign() {
            return n.signum();
        }

        public int compareTo(Fraction o) {
            return minus(o).sign();
        }
    }

    record Place(Fraction x, Fraction y) {
        static Place of(long x, long y) {
            return new Place(Fraction.of(x), Fraction.of(y));
        }

        Place to(Place o, Fraction t) {
            return new Place(x.plus(o.x.minus(x).times(t)), y.plus(o.y.minus(y).times(t)));
        }

        long homogeneous(int which) {
            BigInteger w = x.d.multiply(y.d).divide(x.d.gcd(y.d));
            BigInteger[] all = {x.n.multiply(w.divide(x.d)), y.n.multiply(w.divide(y.d)), w};
            return all[which].longValueExact();
        }
    }

    record Part(int piece, Place from, Place to) {
    }

    record Hit(int piece, Fraction t) {
    }

    static final class Node {
        int number;
        boolean leaf;
        int line;
        int depth;
        Node above;
        Node front;
        Node back;
        List<Part> own = new ArrayList<>();
        int firstOwn;

        int code() {
            return leaf ? -2 - number : number;
        }
    }

    final List<Part> pieces = new ArrayList<>();
    final List<Node> knots = new ArrayList<>();
    final List<Part> parts = new ArrayList<>();
    final List<Node> homes = new ArrayList<>();
    int leaves;
    Node top;
    List<Integer> told = new ArrayList<>();
    List<Hit> hits = new ArrayList<>();
    private int draw;

    static boolean beyond(long... values) {
        for (long value : values) {
            if (Math.abs(value) > 1000) {
                return true;
            }
        }
        return false;
    }

    private void another() {
        top = null;
        knots.clear();
        parts.clear();
        homes.clear();
        leaves = 0;
        told = new ArrayList<>();
    }

    int piece(int x0, int y0, int x1, int y1) {
        if (pieces.size() == 24 || beyond(x0, y0, x1, y1) || x0 == x1 && y0 == y1) {
            return -1;
        }
        another();
        pieces.add(new Part(pieces.size(), Place.of(x0, y0), Place.of(x1, y1)));
        return pieces.size() - 1;
    }

    int drop() {
        if (pieces.isEmpty()) {
            return -1;
        }
        another();
        pieces.remove(pieces.size() - 1);
        return pieces.size();
    }

    private Fraction side(int line, Place p) {
        Part l = pieces.get(line);
        return l.to.x.minus(l.from.x).times(p.y.minus(l.from.y))
            .minus(l.to.y.minus(l.from.y).times(p.x.minus(l.from.x)));
    }

    private boolean on(Part p, int line) {
        return side(line, p.from).sign() == 0 && side(line, p.to).sign() == 0;
    }

    private boolean cuts(Part p, int line) {
        return side(line, p.from).sign() * side(line, p.to).sign() < 0;
    }

    /** What of a row is on one side of a line (1 front, -1 back). */
    private List<Part> sideRow(List<Part> row, int line, int which) {
        List<Part> out = new ArrayList<>();
        for (Part p : row) {
            Fraction a = side(line, p.from);
            Fraction b = side(line, p.to);
            if (cuts(p, line)) {
                Place at = p.from.to(p.to, a.over(a.minus(b)));
                out.add(a.sign() == which ? new Part(p.piece, p.from, at) : new Part(p.piece, at, p.to));
            } else if (!on(p, line) && a.sign() != -which && b.sign() != -which) {
                out.add(p);
            }
        }
        return out;
    }

    private int chosen(List<Part> row, int rule) {
        if (rule == 2) {
            draw = (int) (1103515245L * draw + 12345L);
            return ((draw >>> 16) & 32767) % row.size();
        }
        int best = 0;
        long[] bestKey = null;
        for (int i = 0; i < row.size() && rule != 0; i++) {
            int line = row.get(i).piece;
            long cuts = row.stream().filter(p -> cuts(p, line)).count();
            long unlike = Math.abs(sideRow(row, line, 1).size() - sideRow(row, line, -1).size());
            long[] key = {rule == 3 ? unlike : 0, cuts};
            if (bestKey == null || java.util.Arrays.compare(key, bestKey) < 0) {
                best = i;
                bestKey = key;
            }
        }
        return best;
    }

    int build(int rule, int seed) {
        if (rule < 0 || rule > 3) {
            return -1;
        }
        another();
        draw = seed;
        top = grow(pieces, rule, null);
        return knots.size();
    }

    private Node grow(List<Part> row, int rule, Node above) {
        Node node = new Node();
        node.above = above;
        node.depth = above == null ? 0 : above.depth + 1;
        node.leaf = row.isEmpty();
        if (node.leaf) {
            node.number = leaves++;
            return node;
        }
        node.number = knots.size();
        knots.add(node);
        node.line = row.get(chosen(row, rule)).piece;
        node.firstOwn = parts.size();
        for (Part p : row) {
            if (on(p, node.line)) {
                node.own.add(p);
                parts.add(p);
                homes.add(node);
            }
        }
        node.front = grow(sideRow(row, node.line, 1), rule, node);
        node.back = grow(sideRow(row, node.line, -1), rule, node);
        return node;
    }

    int look(int piece, int what) {
        Part p = pieces.get(piece);
        if (what == 4) {
            return (int) parts.stream().filter(q -> q.piece == piece).count();
        }
        return (int) (what < 2 ? p.from : p.to).homogeneous(what % 2);
    }

    int count(int what) {
        return switch (what) {
            case 0 -> pieces.size();
            case 1 -> knots.size();
            case 2 -> parts.size();
            case 3 -> leaves;
            case 4 -> knots.stream().mapToInt(k -> k.depth + 1).max().orElse(0);
            case 5 -> top == null ? 0 : parts.size() - pieces.size();
            default -> -1;
        };
    }

    int knot(int knot, int what) {
        Node node = knots.get(knot);
        return switch (what) {
            case 0 -> node.line;
            case 1 -> node.own.size();
            case 2 -> node.firstOwn;
            case 3 -> node.front.code();
            case 4 -> node.back.code();
            default -> node.above == null ? -1 : node.above.number;
        };
    }

    long part(int part, int what) {
        Part p = parts.get(part);
        if (what == 0) {
            return p.piece;
        }
        return what == 7 ? homes.get(part).number : (what < 4 ? p.from : p.to).homogeneous((what - 1) % 3);
    }

    int where(int x, int y) {
        if (top == null || beyond(x, y)) {
            return -1;
        }
        Node node = top;
        while (!node.leaf) {
            int side = side(node.line, Place.of(x, y)).sign();
            if (side == 0) {
                return -2 - node.number;
            }
            node = side > 0 ? node.front : node.back;
        }
        return node.number;
    }

    int order(int x, int y) {
        if (top == null || beyond(x, y)) {
            return -1;
        }
        told = tell(top, Place.of(x, y));
        return told.size();
    }

    private List<Integer> tell(Node node, Place from) {
        List<Integer> out = new ArrayList<>();
        if (node.leaf) {
            return out;
        }
        boolean inFront = side(node.line, from).sign() > 0;
        out.addAll(tell(inFront ? node.back : node.front, from));
        for (int i = 0; i < node.own.size(); i++) {
            out.add(node.firstOwn + i);
        }
        out.addAll(tell(inFront ? node.front : node.back, from));
        return out;
    }

    int told(int k) {
        return k >= 0 && k < told.size() ? told.get(k) : -1;
    }

    /** Where the way from a place by dx, dy has a piece: the least and the largest t, or null. */
    private Fraction[] span(Part p, Place o, Fraction dx, Fraction dy) {
        Fraction low = null;
        Fraction high = null;
        Fraction ex = p.to.x.minus(p.from.x);
        Fraction ey = p.to.y.minus(p.from.y);
        Fraction slant = dx.times(ey).minus(dy.times(ex));
        if (slant.sign() != 0) {
            // Where the way comes to the line; then whether that place is between the corners.
            Fraction t = p.from.x.minus(o.x).times(ey).minus(p.from.y.minus(o.y).times(ex)).over(slant);
            Place at = new Place(o.x.plus(dx.times(t)), o.y.plus(dy.times(t)));
            Fraction along = at.x.minus(p.from.x).times(ex).plus(at.y.minus(p.from.y).times(ey));
            if (along.sign() >= 0 && along.compareTo(ex.times(ex).plus(ey.times(ey))) <= 0) {
                low = t;
                high = t;
            }
        } else if (side(p.piece, o).sign() == 0) {
            boolean byX = dx.sign() != 0;
            Fraction a = byX ? p.from.x.minus(o.x).over(dx) : p.from.y.minus(o.y).over(dy);
            Fraction b = byX ? p.to.x.minus(o.x).over(dx) : p.to.y.minus(o.y).over(dy);
            low = a.compareTo(b) < 0 ? a : b;
            high = a.compareTo(b) < 0 ? b : a;
        }
        return low == null ? null : new Fraction[] {low, high};
    }

    int sees(int x0, int y0, int x1, int y1) {
        if (beyond(x0, y0, x1, y1)) {
            return -1;
        }
        boolean place = x0 == x1 && y0 == y1;
        for (Part p : pieces) {
            // For a mere place any way through it will do, looked at where t is 0 alone.
            Fraction[] span = span(p, Place.of(x0, y0), Fraction.of(place ? 1 : x1 - x0), Fraction.of(y1 - y0));
            Fraction end = Fraction.of(place ? 0 : 1);
            if (span != null && span[1].sign() >= 0 && span[0].compareTo(end) <= 0) {
                return 0;
            }
        }
        return 1;
    }

    int ray(int x, int y, int dx, int dy) {
        if (beyond(x, y, dx, dy) || dx == 0 && dy == 0) {
            return -1;
        }
        hits = new ArrayList<>();
        for (Part p : pieces) {
            Fraction[] span = span(p, Place.of(x, y), Fraction.of(dx), Fraction.of(dy));
            if (span != null && span[1].sign() >= 0) {
                hits.add(new Hit(p.piece, span[0].sign() < 0 ? Fraction.of(0) : span[0]));
            }
        }
        hits.sort((a, b) -> a.t.compareTo(b.t) != 0 ? a.t.compareTo(b.t) : a.piece - b.piece);
        return hits.size();
    }

    int met(int k, int what) {
        if (k < 0 || k >= hits.size() || what < 0 || what > 2) {
            return -1;
        }
        Hit hit = hits.get(k);
        return what == 0 ? hit.piece : (what == 1 ? hit.t.n : hit.t.d).intValueExact();
    }

    int least() {
        return pieces.size() > 5 ? -1 : fewest(pieces);
    }

    private int fewest(List<Part> row) {
        int best = row.isEmpty() ? 0 : Integer.MAX_VALUE;
        for (Part p : row) {
            best = Math.min(best, partsBy(row, p.piece, false));
        }
        return best;
    }

    private int partsBy(List<Part> row, int line, boolean firstOnly) {
        int parts = (int) row.stream().filter(q -> on(q, line)).count();
        for (int which = -1; which <= 1; which += 2) {
            List<Part> below = sideRow(row, line, which);
            if (!below.isEmpty()) {
                parts += firstOnly ? partsBy(below, below.get(0).piece, true) : fewest(below);
            }
        }
        return parts;
    }

    int sum() {
        return pieces.size() > 6 ? -1 : sumBehind(new ArrayList<>(), new ArrayList<>(pieces));
    }

    private int sumBehind(List<Part> ahead, List<Part> left) {
        if (left.isEmpty()) {
            return ahead.isEmpty() ? 0 : partsBy(ahead, ahead.get(0).piece, true);
        }
        int sum = 0;
        for (int i = 0; i < left.size(); i++) {
            Part p = left.remove(i);
            ahead.add(p);
            sum += sumBehind(ahead, left);
            ahead.remove(ahead.size() - 1);
            left.add(i, p);
        }
        return sum;
    }
}
