import java.util.ArrayList;
import java.util.List;
import java.util.Random;

/**
 * Long runs of calls, each answer held against that of a plain table which follows the document
 * word by word: it lists every laying and reckons everything anew.
 */
public final class PlainRuns {
    private static final int RUNS = 4000;
    private static final int CALLS = 512;
    private static final int[] ODD = {Integer.MIN_VALUE, -2, -1, 1000, Integer.MAX_VALUE};

    private static final class Copy {
        int row, column;
        int[] marks = {2, 2, 2, 2, 2, 2, 2, 2};
        int[] letters = {-1, -1};
        int wear, day = -1, shade;

        Copy twin() {
            Copy t = new Copy();
            t.row = row;
            t.column = column;
            t.marks = marks.clone();
            t.letters = letters.clone();
            t.wear = wear;
            t.day = day;
            t.shade = shade;
            return t;
        }
    }

    private static final class Piece {
        int rows, columns, margins;
        boolean out;
        List<Copy> copies = new ArrayList<>();

        Piece twin() {
            Piece t = new Piece();
            t.rows = rows;
            t.columns = columns;
            t.margins = margins;
            t.out = out;
            for (Copy c : copies) t.copies.add(c.twin());
            return t;
        }
    }

    /** The plain table. */
    private static final class Plain {
        int rows = 1, columns = 1;
        List<Piece> pieces = new ArrayList<>();
        List<int[]> bars = new ArrayList<>();
        Plain kept;
        List<int[]> best;
        int least;

        static List<Piece> twins(List<Piece> all) {
            List<Piece> t = new ArrayList<>();
            for (Piece p : all) t.add(p.twin());
            return t;
        }

        List<Copy> copies() {
            List<Copy> all = new ArrayList<>();
            for (Piece p : pieces) all.addAll(p.copies);
            return all;
        }

        int pieceOf(Copy c) {
            for (int i = 0; i < pieces.size(); i++) if (pieces.get(i).copies.contains(c)) return i;
            throw new IllegalStateException();
        }

        boolean forged(Piece p) {
            for (Copy c : p.copies)
                for (int[] b : bars) if (c.marks[b[0]] == 1 && c.marks[b[1]] == 1) return true;
            return false;
        }

        boolean takes(Piece p) {
            return !p.out && !forged(p);
        }

        boolean mayLie(Piece p, int place) {
            int r = place / columns, c = place % columns;
            if (r + p.rows > rows || c + p.columns > columns) return false;
            if ((p.margins & 1) != 0 && r != 0) return false;
            if ((p.margins & 2) != 0 && c != 0) return false;
            if ((p.margins & 4) != 0 && r + p.rows != rows) return false;
            if ((p.margins & 8) != 0 && c + p.columns != columns) return false;
            for (Copy k : p.copies) {
                if (k.letters[0] != -1 && k.letters[0] != r + k.row) return false;
                if (k.letters[1] != -1 && k.letters[1] != c + k.column) return false;
            }
            return true;
        }

        int placeIn(int[] laying, Copy c) {
            int spot = laying[pieceOf(c)];
            return (spot / columns + c.row) * columns + spot % columns + c.column;
        }

        List<int[]> best() {
            if (best == null) {
                best = new ArrayList<>();
                least = Integer.MAX_VALUE;
                extend(0, new int[pieces.size()], 0);
            }
            return best;
        }

        void extend(int at, int[] laying, int quarrel) {
            if (quarrel > least) return;
            if (at == pieces.size()) {
                if (quarrel < least) best.clear();
                least = quarrel;
                best.add(laying.clone());
                return;
            }
            Piece p = pieces.get(at);
            if (!takes(p)) {
                laying[at] = -1;
                extend(at + 1, laying, quarrel);
                return;
            }
            for (int place = 0; place < rows * columns; place++) {
                if (mayLie(p, place)) {
                    laying[at] = place;
                    int more = 0;
                    for (int o = 0; o < at; o++)
                        if (laying[o] >= 0) more += quarrelOf(p, place, pieces.get(o), laying[o]);
                    extend(at + 1, laying, quarrel + more);
                }
            }
        }

        int quarrelOf(Piece p, int at, Piece o, int otherAt) {
            int n = 0;
            for (Copy a : p.copies)
                for (Copy b : o.copies) {
                    boolean sameRow = at / columns + a.row == otherAt / columns + b.row;
                    boolean sameColumn = at % columns + a.column == otherAt % columns + b.column;
                    if (!sameRow || !sameColumn) continue;
                    for (int m = 0; m < 8; m++)
                        if (a.marks[m] == 1 && b.marks[m] == 0 || a.marks[m] == 0 && b.marks[m] == 1) n++;
                }
            return n;
        }

        int sureAt(Copy c) {
            if (!takes(pieces.get(pieceOf(c))) || best().isEmpty()) return -1;
            int at = placeIn(best().get(0), c);
            for (int[] l : best()) if (placeIn(l, c) != at) return -1;
            return at;
        }

        List<Copy> order(int place) {
            List<Copy> line = new ArrayList<>();
            for (Copy c : copies()) if (sureAt(c) == place) line.add(c);
            line.sort((a, b) -> Integer.compare(a.wear, b.wear));
            return line;
        }

        int changes(int place, int mark) {
            List<Integer> seen = new ArrayList<>();
            for (Copy c : order(place)) if (c.marks[mark] != 2) seen.add(c.marks[mark]);
            int n = 0;
            for (int i = 1; i < seen.size(); i++) if (!seen.get(i).equals(seen.get(i - 1))) n++;
            return n;
        }

        boolean noCopy(int c) {
            return c < 0 || c >= copies().size();
        }

        boolean noPiece(int p) {
            return p < 0 || p >= pieces.size();
        }

        boolean noPlace(int p) {
            return p < 0 || p >= rows * columns;
        }

        static boolean outside(int v, int a, int b) {
            return v < a || v > b;
        }

        int answer(int call, int a, int b, int c) {
            if (call <= 11 || call == 28) best = null;
            switch (call) {
                case 0: {
                    if (outside(a, 1, 3) || outside(b, 1, 4) || a * b > 9) return -1;
                    rows = a;
                    columns = b;
                    pieces.clear();
                    return a * b;
                }
                case 1: {
                    if (outside(a, 1, 2) || outside(b, 1, 3) || outside(c, 0, 15)) return -1;
                    if (pieces.size() == 5) return -2;
                    Piece p = new Piece();
                    p.rows = a;
                    p.columns = b;
                    p.margins = c;
                    for (int r = 0; r < a; r++)
                        for (int k = 0; k < b; k++) {
                            Copy n = new Copy();
                            n.row = r;
                            n.column = k;
                            p.copies.add(n);
                        }
                    pieces.add(p);
                    return pieces.size() - 1;
                }
                case 2: {
                    if (pieces.isEmpty()) return -4;
                    pieces.remove(pieces.size() - 1);
                    return pieces.size();
                }
                case 3: {
                    if (noCopy(a) || outside(b, 0, 7) || outside(c, 0, 2)) return -1;
                    int was = copies().get(a).marks[b];
                    copies().get(a).marks[b] = c;
                    return was;
                }
                case 4: {
                    if (noCopy(a) || noCopy(b)) return -1;
                    int n = 0;
                    for (int m = 0; m < 8; m++)
                        if (copies().get(a).marks[m] != copies().get(b).marks[m]) n++;
                    copies().get(a).marks = copies().get(b).marks.clone();
                    return n;
                }
                case 5: {
                    if (noCopy(a) || outside(b, 0, 1) || outside(c, -1, b == 0 ? 2 : 3)) return -1;
                    copies().get(a).letters[b] = c;
                    return 1;
                }
                case 6: {
                    if (noCopy(a) || outside(b, 0, 99)) return -1;
                    int was = copies().get(a).wear;
                    copies().get(a).wear = b;
                    return was;
                }
                case 7: {
                    if (noCopy(a) || outside(b, -1, 999) || outside(c, 0, 5)) return -1;
                    copies().get(a).day = b;
                    copies().get(a).shade = c;
                    return 1;
                }
                case 8: {
                    if (noPiece(a)) return -1;
                    boolean was = pieces.get(a).out;
                    pieces.get(a).out = (b & 1) == 1;
                    return was != pieces.get(a).out ? 1 : 0;
                }
                case 9: {
                    if (outside(a, 0, 7) || outside(b, 0, 7) || a == b) return -1;
                    for (int[] x : bars)
                        if (x[0] == a && x[1] == b || x[0] == b && x[1] == a) return -3;
                    if (bars.size() == 6) return -2;
                    bars.add(new int[] {a, b});
                    return bars.size();
                }
                case 10: {
                    int n = bars.size();
                    bars.clear();
                    return n;
                }
                case 11: {
                    if (noCopy(a) || outside(b, 0, 15)) return -1000;
                    Copy k = copies().get(a);
                    int[] facts = {pieceOf(k), k.row, k.column, k.letters[0], k.letters[1], k.wear, k.day, k.shade};
                    return b < 8 ? facts[b] : k.marks[b - 8];
                }
                default:
                    return ask(call, a, b);
            }
        }

        int ask(int call, int a, int b) {
            switch (call) {
                case 12: {
                    if (noPiece(a) || outside(b, 0, 5)) return -1;
                    Piece p = pieces.get(a);
                    int first = 0;
                    for (int i = 0; i < a; i++) first += pieces.get(i).copies.size();
                    int[] facts = {p.rows, p.columns, p.margins, first, forged(p) ? 1 : 0, takes(p) ? 1 : 0};
                    return facts[b];
                }
                case 13:
                    return best().isEmpty() ? -4 : least;
                case 14:
                    return best().size();
                case 15: {
                    if (noPiece(b)) return -1;
                    if (!takes(pieces.get(b))) return -5;
                    if (outside(a, 0, best().size() - 1)) return -4;
                    return best().get(a)[b];
                }
                case 16: {
                    if (noCopy(a)) return -1;
                    if (!takes(pieces.get(pieceOf(copies().get(a))))) return -5;
                    if (best().isEmpty()) return -4;
                    int at = sureAt(copies().get(a));
                    return at < 0 ? -6 : at;
                }
                case 17: {
                    if (noCopy(a)) return -1;
                    if (!takes(pieces.get(pieceOf(copies().get(a))))) return -5;
                    if (best().isEmpty()) return -4;
                    int bits = 0;
                    for (int[] l : best()) bits |= 1 << placeIn(l, copies().get(a));
                    return bits;
                }
                case 18: {
                    if (noPlace(a)) return -1;
                    List<Copy> line = order(a);
                    return outside(b, 0, line.size() - 1) ? -4 : copies().indexOf(line.get(b));
                }
                case 19: {
                    if (noPlace(a) || outside(b, 0, 7)) return -1;
                    boolean zero = false, one = false;
                    for (Copy c : order(a)) {
                        zero |= c.marks[b] == 0;
                        one |= c.marks[b] == 1;
                    }
                    return zero && one ? 3 : one ? 1 : zero ? 0 : 2;
                }
                case 20:
                    return noPlace(a) || outside(b, 0, 7) ? -1 : changes(a, b);
                case 21: {
                    if (noPlace(a)) return -1;
                    int n = 0;
                    for (int m = 0; m < 8; m++) if (changes(a, m) > 2) n += changes(a, m) - 2;
                    return n;
                }
                case 22: {
                    int n = 0;
                    for (Copy x : copies())
                        for (Copy y : copies())
                            if (x.wear < y.wear && x.day > y.day && y.day != -1 && sureAt(x) != -1
                                    && sureAt(x) == sureAt(y)) n++;
                    return n;
                }
                default:
                    return askMore(call, a, b);
            }
        }

        int askMore(int call, int a, int b) {
            switch (call) {
                case 23: {
                    if (outside(a, 0, 5) || outside(b, 0, 2)) return -1;
                    int n = 0, early = 1000, late = -1;
                    for (Copy c : copies())
                        if (c.shade == a && c.day != -1 && takes(pieces.get(pieceOf(c)))) {
                            n++;
                            early = Math.min(early, c.day);
                            late = Math.max(late, c.day);
                        }
                    return b == 2 ? n : n == 0 ? -4 : b == 0 ? early : late;
                }
                case 24: {
                    if (outside(a, 0, 2)) return -1;
                    int seen = 0, p = 0, q = 0;
                    for (int place = 0; place < rows * columns; place++) {
                        int n = order(place).size();
                        if (n > 0) seen++;
                        if (n == 1) p++;
                        if (n == 2) q++;
                    }
                    int above = q == 0 ? p * (p - 1) : p * p, below = q == 0 ? 2 : 2 * q;
                    int d = java.math.BigInteger.valueOf(above).gcd(java.math.BigInteger.valueOf(below)).intValue();
                    return a == 0 ? seen : a == 1 ? above / d : below / d;
                }
                case 25: {
                    int forged = 0, taking = 0, sure = 0;
                    for (Piece p : pieces) {
                        if (forged(p)) forged++;
                        if (takes(p)) taking++;
                    }
                    if (a == 6) for (Copy c : copies()) if (sureAt(c) >= 0) sure++;
                    int[] facts = {rows * columns, pieces.size(), copies().size(), bars.size(), forged, taking, sure};
                    return outside(a, 0, 6) ? -1 : facts[a];
                }
                case 26: {
                    kept = new Plain();
                    kept.rows = rows;
                    kept.columns = columns;
                    kept.pieces = twins(pieces);
                    kept.bars = new ArrayList<>(bars);
                    return 1;
                }
                default: {
                    if (kept == null) return -4;
                    best = null;
                    rows = kept.rows;
                    columns = kept.columns;
                    pieces = twins(kept.pieces);
                    bars = new ArrayList<>(kept.bars);
                    return 1;
                }
            }
        }
    }

    private static final String[] NAMES = {"sheet", "piece", "drop", "mark", "like", "letter", "wear", "dated",
        "out", "bar", "free", "of", "told", "quarrel", "layings", "laying", "place", "rivals", "order", "known",
        "changes", "breaks", "inverted", "span", "unseen", "many", "keep", "back"};

    private static int answer(StampSheet x, int call, int a, int b, int c) {
        switch (call) {
            case 0: return x.sheet(a, b);
            case 1: return x.piece(a, b, c);
            case 2: return x.drop();
            case 3: return x.mark(a, b, c);
            case 4: return x.like(a, b);
            case 5: return x.letter(a, b, c);
            case 6: return x.wear(a, b);
            case 7: return x.dated(a, b, c);
            case 8: return x.out(a, (b & 1) == 1);
            case 9: return x.bar(a, b);
            case 10: return x.free();
            case 11: return x.of(a, b);
            case 12: return x.told(a, b);
            case 13: return x.quarrel();
            case 14: return x.layings();
            case 15: return x.laying(a, b);
            case 16: return x.place(a);
            case 17: return x.rivals(a);
            case 18: return x.order(a, b);
            case 19: return x.known(a, b);
            case 20: return x.changes(a, b);
            case 21: return x.breaks(a);
            case 22: return x.inverted();
            case 23: return x.span(a, b);
            case 24: return x.unseen(a);
            case 25: return x.many(a);
            case 26: return x.keep();
            default: return x.back();
        }
    }

    /** How often a call comes in the first part of a run and later on, in the order of NAMES. */
    private static final int[] OFTEN = {1, 6, 2, 40, 8, 5, 12, 12, 3, 2, 1, 5, 6, 6, 6, 10, 10, 10, 8, 8, 8, 6, 6, 8,
        8, 7, 1, 1};

    /** The range of each number of a call; [low, high] of a, b, c. */
    private static int[] ranges(int call, Plain p) {
        int copy = p.copies().size() - 1, piece = p.pieces.size() - 1, place = p.rows * p.columns - 1;
        switch (call) {
            case 0: return new int[] {1, 3, 1, 4, 0, 0};
            case 1: return new int[] {1, 2, 1, 3, 0, 15};
            case 3: return new int[] {0, copy, 0, 7, 0, 2};
            case 4: return new int[] {0, copy, 0, copy, 0, 0};
            case 5: return new int[] {0, copy, 0, 1, -1, 3};
            case 6: return new int[] {0, copy, 0, 99, 0, 0};
            case 7: return new int[] {0, copy, -1, 999, 0, 5};
            case 8: return new int[] {0, piece, 0, 1, 0, 0};
            case 9: return new int[] {0, 7, 0, 7, 0, 0};
            case 11: return new int[] {0, copy, 0, 15, 0, 0};
            case 12: return new int[] {0, piece, 0, 5, 0, 0};
            case 15: return new int[] {0, p.best().size() - 1, 0, piece, 0, 0};
            case 16: case 17: return new int[] {0, copy, 0, 0, 0, 0};
            case 18: return new int[] {0, place, 0, 5, 0, 0};
            case 19: case 20: case 21: return new int[] {0, place, 0, 7, 0, 0};
            case 23: return new int[] {0, 5, 0, 2, 0, 0};
            case 24: return new int[] {0, 2, 0, 0, 0, 0};
            case 25: return new int[] {0, 6, 0, 0, 0, 0};
            default: return new int[6];
        }
    }

    private static int number(Random random, int low, int high, int oddness) {
        int turn = random.nextInt(oddness);
        if (turn == 0) return random.nextInt(4) == 0 ? ODD[random.nextInt(ODD.length)] : low - 1;
        if (turn == 1) return high + 1;
        if (high < low) return low;
        if (turn == 2) return high;
        return low + random.nextInt(high - low + 1);
    }

    private static int pickCall(Random random) {
        int all = 0;
        for (int o : OFTEN) all += o;
        int at = random.nextInt(all);
        int call = 0;
        while (at >= OFTEN[call]) at -= OFTEN[call++];
        return call;
    }

    /** What sort of run it is: small sheets make copies meet, kept ones make layings last. */
    private static final class Mood {
        final Random random;
        final boolean narrow, wild, fewMarks, fewDays;
        final int oddness;

        Mood(int run) {
            random = new Random(run);
            narrow = run % 3 == 0;
            wild = run % 7 == 0;
            fewMarks = run % 5 < 3;
            fewDays = run % 2 == 0;
            oddness = run % 4 == 0 ? 10 : 80;
        }

        int[] numbers(int call, Plain p) {
            int[] r = ranges(call, p);
            if (call == 0 && narrow) {
                r[1] = 2;
                r[3] = 2;
            }
            if (call == 1 && !wild) {
                r[1] = Math.min(2, p.rows);
                r[3] = Math.min(3, p.columns);
            }
            if (call == 3 && fewMarks) {
                r[3] = 1;
                r[5] = 1;
            }
            if (call == 6 && fewDays) r[3] = 3;
            if (call == 7 && fewDays) r[3] = 4;
            if ((call == 4 || call == 3) && random.nextInt(4) == 0) r[0] = Math.max(0, r[1] - 3);
            int[] n = new int[3];
            for (int i = 0; i < 3; i++) n[i] = number(random, r[2 * i], r[2 * i + 1], oddness);
            if (call == 1 && !wild && random.nextInt(8) > 0) n[2] = margins(p, n[0], n[1]);
            if (call == 5 && !wild) n[2] = letter(p, n);
            return n;
        }

        /** Margins that some spot of the sheet has, mostly none. */
        private int margins(Plain p, int rows, int columns) {
            if (random.nextInt(2) == 0 || rows > p.rows || columns > p.columns) return 0;
            int row = random.nextInt(p.rows - Math.max(rows, 1) + 1);
            int column = random.nextInt(p.columns - Math.max(columns, 1) + 1);
            int rims = (row == 0 ? 1 : 0) | (column == 0 ? 2 : 0) | (row + rows == p.rows ? 4 : 0)
                | (column + columns == p.columns ? 8 : 0);
            return rims & random.nextInt(16);
        }

        /** A letter that some best laying has, or none. */
        private int letter(Plain p, int[] n) {
            int kind = random.nextInt(6);
            if (kind == 0 || p.noCopy(n[0]) || p.best().isEmpty()) return n[2];
            Copy copy = p.copies().get(n[0]);
            int[] laying = p.best().get(random.nextInt(p.best().size()));
            if (kind == 1 || laying[p.pieceOf(copy)] < 0) return -1;
            int place = p.placeIn(laying, copy);
            return n[1] == 0 ? place / p.columns : place % p.columns;
        }

        int call(int i) {
            if (i < 5) return i == 0 ? 0 : 1;
            int call = pickCall(random);
            // what takes all away comes seldom, but for the wild runs
            boolean takesAway = call == 0 || call == 2 || call == 8 || call == 9;
            return takesAway && !wild && random.nextInt(4) > 0 ? pickCall(random) : call;
        }
    }

    public static void main(String[] args) {
        int[] met = new int[NAMES.length];
        for (int run = 1; run <= RUNS; run++) {
            Mood mood = new Mood(run);
            StampSheet x = new StampSheet();
            Plain p = new Plain();
            StringBuilder told = new StringBuilder();
            for (int i = 0; i < CALLS / (run % 4 + 1); i++) {
                int call = mood.call(i);
                int[] n = mood.numbers(call, p);
                int want = p.answer(call, n[0], n[1], n[2]);
                int got = answer(x, call, n[0], n[1], n[2]);
                met[call]++;
                told.append(NAMES[call]).append('(').append(n[0]).append(", ").append(n[1]).append(", ")
                    .append(n[2]).append(") = ").append(want).append('\n');
                if (got != want) {
                    System.out.println(told);
                    System.out.println("run " + run + ", call " + i + ": " + NAMES[call] + " answered " + got
                        + ", due is " + want);
                    System.exit(1);
                }
            }
        }
        for (int call = 0; call < met.length; call++) {
            if (met[call] == 0) {
                System.out.println(NAMES[call] + " was never called");
                System.exit(1);
            }
        }
        System.out.println(RUNS + " runs are as the plain table has them");
    }
}
