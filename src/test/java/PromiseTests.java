/** For each promise of the document: ordinary calls, the edges that it names, and wrong numbers. */
public final class PromiseTests {
    private static final int NUMBER = -1;
    private static final int FULL = -2;
    private static final int TWICE = -3;
    private static final int NONE = -4;
    private static final int APART = -5;
    private static final int RIVALS = -6;
    private static final int HUGE = Integer.MAX_VALUE;
    private static final int DEEP = Integer.MIN_VALUE;

    private static int wrong = 0;
    private static int promise = 0;

    private static void due(String call, int got, int want) {
        if (got != want) {
            wrong++;
            System.out.println("promise " + promise + ": " + call + " answered " + got + ", due is " + want);
        }
    }

    /** A sheet with single copies that all may lie anywhere. */
    private static StampSheet singles(int rows, int columns, int pieces) {
        StampSheet x = new StampSheet();
        x.sheet(rows, columns);
        for (int i = 0; i < pieces; i++) {
            x.piece(1, 1, 0);
        }
        return x;
    }

    private static void bind(StampSheet x, int copy, int row, int column) {
        x.letter(copy, 0, row);
        x.letter(copy, 1, column);
    }

    private static void newObject() {
        StampSheet x = new StampSheet();
        due("many(0)", x.many(0), 1);
        for (int what = 1; what <= 6; what++) {
            due("many(" + what + ")", x.many(what), 0);
        }
        due("back()", x.back(), NONE);
        due("drop()", x.drop(), NONE);
        due("free()", x.free(), 0);
        due("known(0, 0)", x.known(0, 0), 2);
        due("known(1, 0)", x.known(1, 0), NUMBER);
        due("piece(1, 1, 15)", x.piece(1, 1, 15), 0);
        due("place(0)", x.place(0), 0);
        StampSheet other = new StampSheet();
        due("many(1) of another one", other.many(1), 0);
    }

    private static void sheet() {
        StampSheet x = new StampSheet();
        for (int rows = -1; rows <= 5; rows++) {
            for (int columns = -1; columns <= 6; columns++) {
                boolean may = rows >= 1 && rows <= 3 && columns >= 1 && columns <= 4 && rows * columns <= 9;
                due("sheet(" + rows + ", " + columns + ")", x.sheet(rows, columns), may ? rows * columns : NUMBER);
            }
        }
        due("sheet(HUGE, HUGE)", x.sheet(HUGE, HUGE), NUMBER);
        due("sheet(DEEP, 2)", x.sheet(DEEP, 2), NUMBER);
        due("sheet(65536, 65536)", x.sheet(65536, 65536), NUMBER);
        x.sheet(2, 2);
        x.bar(0, 1);
        x.keep();
        x.piece(2, 2, 0);
        x.mark(0, 0, 1);
        due("refused sheet", x.sheet(3, 4), NUMBER);
        due("many(0)", x.many(0), 4);
        due("many(2)", x.many(2), 4);
        due("sheet(2, 3)", x.sheet(2, 3), 6);
        due("no pieces", x.many(1), 0);
        due("no copies", x.many(2), 0);
        due("bars stay", x.many(3), 1);
        due("first piece", x.piece(1, 1, 0), 0);
        due("a new copy", x.of(0, 8), 2);
        due("what is kept stays", x.back(), 1);
        due("many(0)", x.many(0), 4);
    }

    private static void piece() {
        StampSheet x = new StampSheet();
        x.sheet(3, 3);
        int[][] none = {{0, 1, 0}, {3, 1, 0}, {1, 0, 0}, {1, 4, 0}, {1, 1, -1}, {1, 1, 16}, {DEEP, 1, 0},
            {1, HUGE, 0}, {2, 3, HUGE}, {-1, -1, 0}};
        for (int[] n : none) {
            due("piece", x.piece(n[0], n[1], n[2]), NUMBER);
        }
        due("many(1)", x.many(1), 0);
        due("piece(2, 3, 15)", x.piece(2, 3, 15), 0);
        due("piece(1, 3, 0)", x.piece(1, 3, 0), 1);
        due("piece(2, 1, 0)", x.piece(2, 1, 0), 2);
        due("piece(2, 2, 0)", x.piece(2, 2, 0), 3);
        due("piece(2, 3, 0)", x.piece(2, 3, 0), 4);
        due("copies", x.many(2), 21);
        due("piece(1, 1, 0)", x.piece(1, 1, 0), FULL);
        due("NUMBER comes ahead of FULL", x.piece(1, 4, 0), NUMBER);
        due("pieces", x.many(1), 5);
        for (int copy = 15; copy < 21; copy++) {
            due("piece of copy", x.of(copy, 0), 4);
            due("row", x.of(copy, 1), (copy - 15) / 3);
            due("column", x.of(copy, 2), (copy - 15) % 3);
            due("row letter", x.of(copy, 3), -1);
            due("column letter", x.of(copy, 4), -1);
            due("wear", x.of(copy, 5), 0);
            due("day", x.of(copy, 6), -1);
            due("shade", x.of(copy, 7), 0);
            due("mark", x.of(copy, 15), 2);
        }
    }

    private static void drop() {
        StampSheet x = new StampSheet();
        x.sheet(2, 3);
        x.piece(1, 2, 0);
        x.piece(2, 2, 0);
        x.mark(2, 3, 1);
        x.mark(2, 4, 0);
        x.wear(2, 7);
        x.letter(2, 1, 0);
        x.dated(2, 5, 5);
        x.out(1, true);
        due("drop()", x.drop(), 1);
        due("copies", x.many(2), 2);
        due("of(2, 0)", x.of(2, 0), -1000);
        due("layings", x.layings(), 4);
        due("piece again", x.piece(1, 1, 0), 1);
        due("its mark", x.of(2, 11), 2);
        due("its other mark", x.of(2, 12), 2);
        due("its wear", x.of(2, 5), 0);
        due("its letter", x.of(2, 4), -1);
        due("its day", x.of(2, 6), -1);
        due("its shade", x.of(2, 7), 0);
        due("not out", x.told(1, 5), 1);
        due("drop()", x.drop(), 1);
        due("drop()", x.drop(), 0);
        due("drop()", x.drop(), NONE);
        due("many(0)", x.many(0), 6);
    }

    private static void mark() {
        StampSheet x = singles(1, 2, 1);
        due("mark(0, 7, 1)", x.mark(0, 7, 1), 2);
        due("mark(0, 7, 0)", x.mark(0, 7, 0), 1);
        due("mark(0, 7, 0)", x.mark(0, 7, 0), 0);
        due("mark(0, 7, 2)", x.mark(0, 7, 2), 0);
        due("mark(0, 7, 1)", x.mark(0, 7, 1), 2);
        due("other marks", x.of(0, 14), 2);
        int[][] none = {{-1, 0, 0}, {1, 0, 0}, {0, -1, 0}, {0, 8, 0}, {0, 7, -1}, {0, 7, 3}, {HUGE, 0, 0},
            {DEEP, 0, 0}, {0, HUGE, 0}, {0, 7, DEEP}};
        for (int[] n : none) {
            due("mark", x.mark(n[0], n[1], n[2]), NUMBER);
        }
        due("nothing changed", x.of(0, 15), 1);
        due("mark(0, 0, 1)", x.mark(0, 0, 1), 2);
        due("of(0, 8)", x.of(0, 8), 1);
    }

    private static void like() {
        StampSheet x = singles(1, 2, 2);
        x.mark(0, 0, 1);
        x.mark(0, 1, 0);
        x.mark(1, 1, 1);
        x.mark(1, 5, 0);
        x.wear(0, 9);
        due("like(1, 0)", x.like(1, 0), 3);
        due("of(1, 8)", x.of(1, 8), 1);
        due("of(1, 9)", x.of(1, 9), 0);
        due("of(1, 13)", x.of(1, 13), 2);
        due("only marks", x.of(1, 5), 0);
        due("like(1, 0)", x.like(1, 0), 0);
        due("like(0, 0)", x.like(0, 0), 0);
        due("the other one stays", x.of(0, 9), 0);
        x.mark(0, 1, 1);
        due("not bound together", x.of(1, 9), 0);
        for (int[] n : new int[][] {{2, 0}, {0, 2}, {-1, 0}, {0, -1}, {HUGE, 0}, {0, DEEP}}) {
            due("like", x.like(n[0], n[1]), NUMBER);
        }
        due("nothing changed", x.of(0, 9), 1);
        for (int mark = 0; mark < 8; mark++) {
            x.mark(0, mark, 0);
            x.mark(1, mark, 1);
        }
        due("all of them", x.like(0, 1), 8);
        due("quarrel", x.quarrel(), 0);
    }

    private static void letter() {
        StampSheet x = singles(3, 3, 2);
        due("letter(0, 0, 2)", x.letter(0, 0, 2), 1);
        due("of(0, 3)", x.of(0, 3), 2);
        due("rivals(0)", x.rivals(0), 64 + 128 + 256);
        due("letter(0, 1, 1)", x.letter(0, 1, 1), 1);
        due("of(0, 4)", x.of(0, 4), 1);
        due("place(0)", x.place(0), 7);
        due("letter(0, 0, -1)", x.letter(0, 0, -1), 1);
        due("rivals(0)", x.rivals(0), 2 + 16 + 128);
        int[][] none = {{2, 0, 0}, {-1, 0, 0}, {0, 2, 0}, {0, -1, 0}, {0, 0, 3}, {0, 0, -2}, {0, 1, 4},
            {0, 1, -2}, {0, HUGE, 0}, {0, 1, HUGE}, {0, 0, DEEP}};
        for (int[] n : none) {
            due("letter", x.letter(n[0], n[1], n[2]), NUMBER);
        }
        due("of(0, 3)", x.of(0, 3), -1);
        due("of(0, 4)", x.of(0, 4), 1);
        due("letter(0, 1, 3)", x.letter(0, 1, 3), 1);
        due("no such column", x.layings(), 0);
        due("letter(0, 1, 0)", x.letter(0, 1, 0), 1);
        due("letter(0, 0, 0)", x.letter(0, 0, 0), 1);
        due("place(0)", x.place(0), 0);
        StampSheet pair = new StampSheet();
        pair.sheet(2, 4);
        pair.piece(2, 2, 0);
        due("a letter of its last copy", pair.letter(3, 1, 3), 1);
        due("binds the piece", pair.place(0), 2);
        due("row and column of one piece", pair.letter(0, 1, 3), 1);
        due("that can't be", pair.layings(), 0);
    }

    private static void wear() {
        StampSheet x = singles(1, 1, 2);
        due("wear(1, 99)", x.wear(1, 99), 0);
        due("wear(1, 0)", x.wear(1, 0), 99);
        due("wear(1, 5)", x.wear(1, 5), 0);
        due("of(1, 5)", x.of(1, 5), 5);
        due("of(0, 5)", x.of(0, 5), 0);
        for (int[] n : new int[][] {{1, 100}, {1, -1}, {2, 0}, {-1, 0}, {1, HUGE}, {DEEP, 1}}) {
            due("wear", x.wear(n[0], n[1]), NUMBER);
        }
        due("of(1, 5)", x.of(1, 5), 5);
    }

    private static void dated() {
        StampSheet x = singles(1, 1, 2);
        due("dated(0, 999, 5)", x.dated(0, 999, 5), 1);
        due("of(0, 6)", x.of(0, 6), 999);
        due("of(0, 7)", x.of(0, 7), 5);
        due("dated(0, -1, 0)", x.dated(0, -1, 0), 1);
        due("of(0, 6)", x.of(0, 6), -1);
        due("of(0, 7)", x.of(0, 7), 0);
        due("dated(0, 0, 3)", x.dated(0, 0, 3), 1);
        int[][] none = {{0, 1000, 0}, {0, -2, 0}, {0, 1, 6}, {0, 1, -1}, {2, 1, 1}, {-1, 1, 1}, {0, HUGE, 1},
            {0, 1, DEEP}};
        for (int[] n : none) {
            due("dated", x.dated(n[0], n[1], n[2]), NUMBER);
        }
        due("of(0, 6)", x.of(0, 6), 0);
        due("of(0, 7)", x.of(0, 7), 3);
    }

    private static void out() {
        StampSheet x = singles(1, 2, 2);
        due("out(1, false)", x.out(1, false), 0);
        due("layings", x.layings(), 4);
        due("out(1, true)", x.out(1, true), 1);
        due("out(1, true)", x.out(1, true), 0);
        due("takes part", x.told(1, 5), 0);
        due("isn't forged", x.told(1, 4), 0);
        due("layings", x.layings(), 2);
        due("out(0, true)", x.out(0, true), 1);
        due("layings", x.layings(), 1);
        due("out(1, false)", x.out(1, false), 1);
        due("layings", x.layings(), 2);
        for (int piece : new int[] {2, -1, HUGE, DEEP}) {
            due("out", x.out(piece, true), NUMBER);
        }
        x.bar(0, 1);
        x.mark(1, 0, 1);
        x.mark(1, 1, 1);
        due("forged, not out", x.out(1, false), 0);
        due("forged, out", x.out(1, true), 1);
        due("forged, not out", x.out(1, false), 1);
        due("still forged", x.told(1, 5), 0);
    }

    private static void bar() {
        StampSheet x = new StampSheet();
        for (int[] n : new int[][] {{-1, 0}, {0, -1}, {8, 0}, {0, 8}, {3, 3}, {HUGE, 1}, {1, DEEP}, {9, 9}}) {
            due("bar", x.bar(n[0], n[1]), NUMBER);
        }
        due("bar(0, 7)", x.bar(0, 7), 1);
        due("bar(7, 0)", x.bar(7, 0), TWICE);
        due("bar(0, 7)", x.bar(0, 7), TWICE);
        due("bar(1, 0)", x.bar(1, 0), 2);
        due("bar(1, 7)", x.bar(1, 7), 3);
        due("bar(2, 3)", x.bar(2, 3), 4);
        due("bar(4, 3)", x.bar(4, 3), 5);
        due("bar(5, 6)", x.bar(5, 6), 6);
        due("bar(5, 7)", x.bar(5, 7), FULL);
        due("TWICE comes ahead of FULL", x.bar(6, 5), TWICE);
        for (int[] n : new int[][] {{0, 7}, {1, 0}, {1, 7}, {2, 3}, {4, 3}, {5, 6}}) {
            due("each is there", x.bar(n[0], n[1]), TWICE);
            due("either way round", x.bar(n[1], n[0]), TWICE);
        }
        due("NUMBER comes ahead of FULL", x.bar(6, 6), NUMBER);
        due("many(3)", x.many(3), 6);
        x.piece(1, 1, 0);
        x.mark(0, 5, 1);
        x.mark(0, 7, 1);
        due("no bar of these", x.told(0, 4), 0);
        x.mark(0, 0, 0);
        due("a mark that isn't there", x.told(0, 4), 0);
        x.mark(0, 0, 2);
        due("a mark that is hidden", x.told(0, 4), 0);
        x.mark(0, 0, 1);
        due("both are there", x.told(0, 4), 1);
        StampSheet y = new StampSheet();
        y.sheet(1, 2);
        y.piece(1, 2, 0);
        y.mark(0, 2, 1);
        y.mark(1, 3, 1);
        due("bar(3, 2)", y.bar(3, 2), 1);
        due("marks on two copies", y.told(0, 4), 0);
        y.mark(1, 2, 1);
        due("on one copy, which isn't the first", y.told(0, 4), 1);
    }

    private static void free() {
        StampSheet x = singles(1, 1, 1);
        x.mark(0, 1, 1);
        x.mark(0, 2, 1);
        x.bar(1, 2);
        x.bar(2, 3);
        due("forged", x.many(4), 1);
        due("layings", x.layings(), 1);
        due("place", x.place(0), APART);
        due("free()", x.free(), 2);
        due("free()", x.free(), 0);
        due("bars", x.many(3), 0);
        due("forged", x.many(4), 0);
        due("place", x.place(0), 0);
        due("bar(2, 1)", x.bar(2, 1), 1);
    }

    private static void of() {
        StampSheet x = new StampSheet();
        x.sheet(3, 3);
        x.piece(1, 1, 0);
        x.piece(2, 3, 0);
        x.letter(5, 0, 1);
        x.letter(5, 1, 2);
        x.wear(5, 42);
        x.dated(5, 321, 4);
        x.mark(5, 0, 1);
        x.mark(5, 7, 0);
        int[] facts = {1, 1, 1, 1, 2, 42, 321, 4, 1, 2, 2, 2, 2, 2, 2, 0};
        for (int what = 0; what < 16; what++) {
            due("of(5, " + what + ")", x.of(5, what), facts[what]);
        }
        for (int[] n : new int[][] {{5, -1}, {5, 16}, {7, 0}, {-1, 0}, {HUGE, 0}, {0, HUGE}, {DEEP, DEEP}}) {
            due("of(" + n[0] + ", " + n[1] + ")", x.of(n[0], n[1]), -1000);
        }
    }

    private static void told() {
        StampSheet x = new StampSheet();
        x.sheet(3, 3);
        x.piece(2, 1, 10);
        x.piece(1, 3, 5);
        x.bar(0, 1);
        x.mark(4, 0, 1);
        x.mark(4, 1, 1);
        int[][] facts = {{2, 1, 10, 0, 0, 1}, {1, 3, 5, 2, 1, 0}};
        for (int piece = 0; piece < 2; piece++) {
            for (int what = 0; what < 6; what++) {
                due("told(" + piece + ", " + what + ")", x.told(piece, what), facts[piece][what]);
            }
        }
        x.out(0, true);
        x.out(1, true);
        due("out", x.told(0, 5), 0);
        due("out, not forged", x.told(0, 4), 0);
        due("out and forged", x.told(1, 4), 1);
        for (int[] n : new int[][] {{2, 0}, {-1, 0}, {0, 6}, {0, -1}, {HUGE, 0}, {0, DEEP}}) {
            due("told", x.told(n[0], n[1]), NUMBER);
        }
    }

    private static void quarrel() {
        StampSheet x = new StampSheet();
        due("without pieces", x.quarrel(), 0);
        x.piece(1, 1, 0);
        x.piece(1, 1, 0);
        x.piece(1, 1, 0);
        for (int mark = 0; mark < 8; mark++) {
            x.mark(0, mark, 1);
            x.mark(1, mark, 0);
        }
        due("each mark of two", x.quarrel(), 8);
        x.mark(2, 0, 1);
        x.mark(2, 1, 0);
        x.mark(2, 2, 0);
        due("all pairs", x.quarrel(), 11);
        x.mark(0, 7, 2);
        due("hidden ones don't", x.quarrel(), 10);
        x.sheet(1, 3);
        x.piece(1, 3, 0);
        x.piece(1, 2, 0);
        x.mark(0, 0, 0);
        x.mark(1, 0, 1);
        x.mark(2, 0, 1);
        x.mark(3, 0, 1);
        x.mark(4, 0, 0);
        due("the least, not the first", x.quarrel(), 1);
        due("place", x.place(3), 1);
        x.mark(1, 0, 0);
        due("the least, not the last", x.quarrel(), 1);
        due("place", x.place(3), 0);
        x.mark(0, 0, 1);
        due("like ones lie together", x.quarrel(), 0);
        x.piece(2, 1, 0);
        due("too large", x.quarrel(), NONE);
        x.out(2, true);
        due("not with it", x.quarrel(), 0);
        x.out(0, true);
        x.out(1, true);
        due("all are out", x.quarrel(), 0);
    }

    private static void layings() {
        StampSheet x = new StampSheet();
        due("without pieces", x.layings(), 1);
        x.sheet(3, 3);
        int many = 1;
        for (int i = 0; i < 5; i++) {
            x.piece(1, 1, 0);
            many *= 9;
            due("single ones", x.layings(), many);
        }
        x.mark(4, 0, 1);
        x.mark(0, 0, 0);
        due("one apart from another", x.layings(), 9 * 9 * 9 * 9 * 8);
        x.mark(1, 0, 0);
        x.mark(2, 0, 0);
        x.mark(3, 0, 0);
        due("one apart from all", x.layings(), 9 * 8 * 8 * 8 * 8);
        for (int i = 0; i < 5; i++) {
            for (int mark = 0; mark < 8; mark++) {
                x.mark(i, mark, mark == i ? 1 : 0);
            }
        }
        due("all apart", x.layings(), 9 * 8 * 7 * 6 * 5);
        for (int margins = 0; margins < 16; margins++) {
            x.sheet(3, 3);
            x.piece(1, 2, margins);
            due("pair with margins " + margins, x.layings(), pairSpots(margins));
        }
        x.sheet(2, 3);
        x.piece(2, 3, 15);
        due("a piece as large as the sheet", x.layings(), 1);
        x.piece(2, 3, 0);
        x.mark(0, 0, 1);
        x.mark(6, 0, 0);
        due("it must quarrel", x.layings(), 1);
        x.sheet(2, 2);
        x.piece(1, 3, 0);
        due("too large", x.layings(), 0);
    }

    /** Spots of a pair beside one another on three rows and columns. */
    private static int pairSpots(int margins) {
        int rows = (margins & 5) == 0 ? 3 : (margins & 5) == 5 ? 0 : 1;
        int columns = (margins & 10) == 0 ? 2 : (margins & 10) == 10 ? 0 : 1;
        return rows * columns;
    }

    private static void laying() {
        StampSheet x = new StampSheet();
        x.sheet(2, 3);
        x.piece(1, 2, 0);
        x.piece(1, 1, 0);
        x.piece(2, 1, 0);
        int k = 0;
        for (int first : new int[] {0, 1, 3, 4}) {
            for (int second = 0; second < 6; second++) {
                for (int third = 0; third < 3; third++) {
                    due("laying(" + k + ", 0)", x.laying(k, 0), first);
                    due("laying(" + k + ", 1)", x.laying(k, 1), second);
                    due("laying(" + k + ", 2)", x.laying(k, 2), third);
                    k++;
                }
            }
        }
        due("laying(72, 2)", x.laying(72, 2), NONE);
        x.mark(0, 0, 1);
        x.mark(3, 0, 0);
        // copy 3 may not lie on copy 0, which leaves piece 2 two spots while copy 0 is in row 0
        due("layings", x.layings(), 60);
        due("laying(0, 2)", x.laying(0, 2), 1);
        due("laying(11, 1)", x.laying(11, 1), 5);
        due("laying(11, 2)", x.laying(11, 2), 2);
        due("laying(12, 0)", x.laying(12, 0), 1);
        due("laying(12, 2)", x.laying(12, 2), 0);
        due("laying(13, 2)", x.laying(13, 2), 2);
        due("laying(24, 0)", x.laying(24, 0), 3);
        x.out(0, true);
        due("apart", x.laying(0, 0), APART);
        due("the next one comes first", x.laying(4, 1), 1);
        due("apart, no such laying", x.laying(-1, 0), APART);
        for (int piece : new int[] {3, -1, HUGE, DEEP}) {
            due("no such piece", x.laying(0, piece), NUMBER);
            due("no such piece, no such laying", x.laying(-1, piece), NUMBER);
        }
        for (int none : new int[] {18, -1, HUGE, DEEP}) {
            due("no such laying", x.laying(none, 1), NONE);
        }
        x.piece(1, 2, 10);
        due("no laying at all", x.laying(0, 1), NONE);
    }

    private static void place() {
        StampSheet x = new StampSheet();
        x.sheet(3, 2);
        x.piece(2, 2, 1);
        x.piece(2, 1, 0);
        for (int copy = 0; copy < 4; copy++) {
            due("place(" + copy + ")", x.place(copy), copy);
        }
        due("rivals", x.place(4), RIVALS);
        x.letter(5, 0, 2);
        due("still rivals", x.place(4), RIVALS);
        x.letter(4, 1, 1);
        due("place(4)", x.place(4), 3);
        due("place(5)", x.place(5), 5);
        for (int copy : new int[] {6, -1, HUGE, DEEP}) {
            due("no such copy", x.place(copy), NUMBER);
        }
        x.out(0, true);
        due("apart", x.place(3), APART);
        x.letter(4, 0, 0);
        due("no laying", x.place(5), NONE);
        due("apart ahead of no laying", x.place(0), APART);
    }

    private static void rivals() {
        StampSheet x = new StampSheet();
        x.sheet(2, 4);
        x.piece(1, 3, 0);
        due("rivals(0)", x.rivals(0), 1 + 2 + 16 + 32);
        due("rivals(2)", x.rivals(2), 4 + 8 + 64 + 128);
        x.piece(1, 1, 12);
        x.mark(2, 0, 1);
        x.mark(3, 0, 0);
        due("not where it quarrels", x.rivals(0), 1 + 2 + 16);
        due("rivals(3)", x.rivals(3), 128);
        x.out(1, true);
        due("rivals(0)", x.rivals(0), 1 + 2 + 16 + 32);
        due("apart", x.rivals(3), APART);
        for (int copy : new int[] {4, -1, HUGE, DEEP}) {
            due("no such copy", x.rivals(copy), NUMBER);
        }
        x.letter(0, 1, 2);
        due("no laying", x.rivals(1), NONE);
        due("apart ahead of no laying", x.rivals(3), APART);
    }

    private static void order() {
        StampSheet x = singles(1, 2, 5);
        for (int copy = 0; copy < 4; copy++) {
            bind(x, copy, 0, 1);
        }
        x.wear(0, 9);
        x.wear(1, 3);
        x.wear(2, 9);
        x.wear(3, 2);
        int[] line = {3, 1, 0, 2};
        for (int i = 0; i < 4; i++) {
            due("order(1, " + i + ")", x.order(1, i), line[i]);
        }
        due("beyond", x.order(1, 4), NONE);
        due("below", x.order(1, -1), NONE);
        due("far beyond", x.order(1, HUGE), NONE);
        due("one that isn't sure", x.order(0, 0), NONE);
        for (int place : new int[] {2, -1, HUGE, DEEP}) {
            due("no such place", x.order(place, 0), NUMBER);
            due("no such place, none such", x.order(place, -1), NUMBER);
        }
        x.wear(3, 10);
        due("order(1, 3)", x.order(1, 3), 3);
        x.out(1, true);
        due("order(1, 0)", x.order(1, 0), 0);
        bind(x, 4, 2, 0);
        due("no laying", x.order(1, 0), NONE);
    }

    private static void known() {
        StampSheet x = singles(1, 2, 3);
        bind(x, 0, 0, 0);
        bind(x, 1, 0, 0);
        bind(x, 2, 0, 0);
        x.mark(1, 0, 1);
        x.mark(2, 1, 0);
        x.mark(0, 2, 1);
        x.mark(2, 2, 0);
        x.mark(1, 3, 1);
        x.mark(2, 3, 1);
        int[] known = {1, 0, 3, 1, 2, 2, 2, 2};
        for (int mark = 0; mark < 8; mark++) {
            due("known(0, " + mark + ")", x.known(0, mark), known[mark]);
            due("known(1, " + mark + ")", x.known(1, mark), 2);
        }
        x.out(2, true);
        due("of those that take part", x.known(0, 2), 1);
        for (int[] n : new int[][] {{2, 0}, {-1, 0}, {0, 8}, {0, -1}, {HUGE, 0}, {0, DEEP}}) {
            due("known", x.known(n[0], n[1]), NUMBER);
        }
        x.letter(1, 1, -1);
        due("of sure ones", x.known(0, 0), 2);
    }

    /** Five copies on one place, worn as they come. */
    private static StampSheet fiveOnOne() {
        StampSheet x = singles(1, 1, 5);
        for (int copy = 0; copy < 5; copy++) {
            x.wear(copy, copy + 1);
        }
        return x;
    }

    private static void changes() {
        StampSheet x = fiveOnOne();
        due("all hidden", x.changes(0, 0), 0);
        for (int copy = 0; copy < 5; copy++) {
            x.mark(copy, 7, copy & 1);
        }
        due("each time", x.changes(0, 7), 4);
        x.mark(1, 7, 2);
        due("hidden ones are left out", x.changes(0, 7), 2);
        x.mark(0, 7, 2);
        due("the first is no change", x.changes(0, 7), 2);
        x.wear(3, 0);
        due("by wear", x.changes(0, 7), 1);
        for (int[] n : new int[][] {{1, 0}, {-1, 0}, {0, 8}, {0, -1}, {HUGE, 0}, {0, DEEP}}) {
            due("changes", x.changes(n[0], n[1]), NUMBER);
        }
    }

    private static void breaks() {
        StampSheet x = fiveOnOne();
        due("none", x.breaks(0), 0);
        for (int copy = 0; copy < 5; copy++) {
            x.mark(copy, 7, copy & 1);
        }
        due("4 changes", x.breaks(0), 2);
        for (int copy = 0; copy < 4; copy++) {
            x.mark(copy, 0, copy & 1);
        }
        due("and 3 of another mark", x.breaks(0), 3);
        for (int copy = 0; copy < 3; copy++) {
            x.mark(copy, 1, copy & 1);
        }
        due("and 2 are no break", x.breaks(0), 3);
        for (int place : new int[] {1, -1, HUGE, DEEP}) {
            due("breaks", x.breaks(place), NUMBER);
        }
        x.sheet(1, 2);
        due("no copies", x.breaks(1), 0);
    }

    private static void inverted() {
        StampSheet x = fiveOnOne();
        due("no days", x.inverted(), 0);
        for (int copy = 0; copy < 5; copy++) {
            x.dated(copy, 10 - copy, copy);
        }
        due("all pairs", x.inverted(), 10);
        x.dated(0, -1, 0);
        due("without a day", x.inverted(), 6);
        x.dated(4, -1, 0);
        due("the last one without a day", x.inverted(), 3);
        x.wear(1, 3);
        due("like wear", x.inverted(), 2);
        x.dated(2, 7, 0);
        due("like days", x.inverted(), 1);
        x.sheet(1, 2);
        x.piece(1, 1, 2);
        x.piece(1, 1, 2);
        x.piece(1, 1, 8);
        x.piece(1, 1, 8);
        int[][] of = {{1, 9}, {2, 8}, {3, 7}, {4, 6}};
        for (int copy = 0; copy < 4; copy++) {
            x.wear(copy, of[copy][0]);
            x.dated(copy, of[copy][1], 0);
        }
        due("of one place, of all places", x.inverted(), 2);
        x.out(3, true);
        due("of those that take part", x.inverted(), 1);
        x.sheet(1, 2);
        x.piece(1, 1, 0);
        x.piece(1, 1, 2);
        x.wear(0, 1);
        x.dated(0, 9, 0);
        x.dated(1, 10, 0);
        due("of sure ones", x.inverted(), 0);
        x.letter(0, 1, 0);
        due("now both are", x.inverted(), 1);
        x.dated(1, 9, 0);
        x.dated(0, 0, 0);
        due("day 0 is a day", x.inverted(), 1);
    }

    private static void span() {
        StampSheet x = singles(3, 3, 4);
        due("none", x.span(0, 0), NONE);
        due("none", x.span(0, 1), NONE);
        due("none", x.span(0, 2), 0);
        x.dated(0, 0, 5);
        x.dated(1, 999, 5);
        x.dated(2, 50, 5);
        x.dated(3, -1, 5);
        due("earliest", x.span(5, 0), 0);
        due("latest", x.span(5, 1), 999);
        due("how many", x.span(5, 2), 3);
        x.out(0, true);
        due("earliest", x.span(5, 0), 50);
        x.bar(0, 1);
        x.mark(1, 0, 1);
        x.mark(1, 1, 1);
        due("latest", x.span(5, 1), 50);
        due("how many", x.span(5, 2), 1);
        x.letter(2, 1, 3);
        due("no laying is asked for", x.span(5, 0), 50);
        due("another shade", x.span(4, 0), NONE);
        for (int[] n : new int[][] {{6, 0}, {-1, 0}, {0, 3}, {0, -1}, {HUGE, 2}, {5, DEEP}}) {
            due("span", x.span(n[0], n[1]), NUMBER);
        }
    }

    private static void bound(StampSheet x, int seen, int above, int below) {
        due("unseen(0)", x.unseen(0), seen);
        due("unseen(1)", x.unseen(1), above);
        due("unseen(2)", x.unseen(2), below);
    }

    private static void unseen() {
        StampSheet x = singles(3, 3, 5);
        bound(x, 0, 0, 1);
        bind(x, 0, 0, 0);
        bound(x, 1, 0, 1);
        bind(x, 1, 0, 1);
        bound(x, 2, 1, 1);
        bind(x, 2, 0, 2);
        bound(x, 3, 3, 1);
        bind(x, 3, 0, 2);
        bound(x, 3, 2, 1);
        bind(x, 4, 1, 2);
        bound(x, 4, 9, 2);
        bind(x, 4, 0, 1);
        bound(x, 3, 1, 4);
        bind(x, 0, 0, 2);
        bound(x, 2, 0, 1);
        bind(x, 1, 0, 2);
        bound(x, 2, 0, 1);
        x.sheet(3, 3);
        x.piece(2, 3, 1);
        x.piece(1, 3, 1);
        x.piece(1, 3, 4);
        bound(x, 9, 6, 1);
        x.out(1, true);
        bound(x, 9, 36, 1);
        for (int what : new int[] {-1, 3, HUGE, DEEP}) {
            due("unseen(" + what + ")", x.unseen(what), NUMBER);
        }
        x.piece(1, 1, 0);
        x.letter(12, 1, 3);
        bound(x, 0, 0, 1);
    }

    private static void many() {
        StampSheet x = new StampSheet();
        x.sheet(2, 4);
        x.piece(2, 3, 8);
        x.piece(1, 1, 0);
        x.piece(1, 2, 3);
        x.bar(0, 1);
        x.bar(0, 2);
        x.mark(8, 0, 1);
        x.mark(8, 2, 1);
        int[] before = {8, 3, 9, 2, 1, 2, 6};
        for (int what = 0; what < 7; what++) {
            due("many(" + what + ")", x.many(what), before[what]);
        }
        x.out(2, true);
        due("forged and out", x.many(4), 1);
        x.out(0, true);
        due("that take part", x.many(5), 1);
        due("sure", x.many(6), 0);
        bind(x, 6, 1, 3);
        due("sure", x.many(6), 1);
        x.letter(6, 0, 2);
        due("sure without a laying", x.many(6), 0);
        for (int what : new int[] {-1, 7, HUGE, DEEP}) {
            due("many(" + what + ")", x.many(what), NUMBER);
        }
    }

    private static StampSheet fullTable() {
        StampSheet x = new StampSheet();
        x.sheet(2, 2);
        x.piece(1, 2, 4);
        x.piece(1, 1, 0);
        x.bar(3, 4);
        x.out(1, true);
        x.mark(0, 3, 1);
        x.mark(1, 4, 0);
        x.letter(2, 0, 1);
        x.letter(2, 1, 1);
        x.wear(1, 7);
        x.dated(2, 8, 2);
        return x;
    }

    private static void isFullTable(StampSheet x) {
        int[] many = {4, 2, 3, 1, 0, 1, 2};
        for (int what = 0; what < 7; what++) {
            due("many(" + what + ")", x.many(what), many[what]);
        }
        due("margins", x.told(0, 2), 4);
        due("out", x.told(1, 5), 0);
        due("there", x.of(0, 11), 1);
        due("not there", x.of(1, 12), 0);
        due("hidden", x.of(1, 11), 2);
        due("row letter", x.of(2, 3), 1);
        due("column letter", x.of(2, 4), 1);
        due("wear", x.of(1, 5), 7);
        due("day", x.of(2, 6), 8);
        due("shade", x.of(2, 7), 2);
        due("place", x.place(1), 3);
        due("bar", x.bar(4, 3), TWICE);
    }

    private static void keep() {
        StampSheet x = fullTable();
        due("keep()", x.keep(), 1);
        isFullTable(x);
        x.wear(1, 99);
        due("back()", x.back(), 1);
        isFullTable(x);
        x.sheet(1, 1);
        due("keep()", x.keep(), 1);
        x.sheet(3, 3);
        due("back()", x.back(), 1);
        due("the latest", x.many(0), 1);
        due("the latest", x.many(1), 0);
    }

    private static void back() {
        StampSheet x = fullTable();
        due("back()", x.back(), NONE);
        isFullTable(x);
        x.keep();
        for (int time = 0; time < 3; time++) {
            x.mark(0, 3, 0);
            x.mark(1, 4, 1);
            x.mark(1, 3, 1);
            x.letter(2, 0, 0);
            x.wear(1, 1);
            x.dated(2, 1, 1);
            x.out(1, false);
            x.free();
            x.bar(0, 1);
            x.bar(0, 2);
            due("changed", x.many(3), 2);
            due("changed", x.many(5), 2);
            due("back()", x.back(), 1);
            isFullTable(x);
            x.sheet(3, 1);
            x.piece(2, 1, 0);
            due("changed", x.many(2), 2);
            due("back()", x.back(), 1);
            isFullTable(x);
        }
        due("a drop", x.drop(), 1);
        due("back()", x.back(), 1);
        isFullTable(x);
    }

    /** Each question after each change: an answer found earlier must not outlive it. */
    private static void changesAreSeen() {
        StampSheet x = singles(1, 2, 2);
        due("layings", x.layings(), 4);
        x.mark(0, 0, 1);
        x.mark(1, 0, 0);
        due("after mark", x.layings(), 2);
        due("laying", x.laying(1, 0), 1);
        x.like(1, 0);
        due("after like", x.layings(), 4);
        due("laying", x.laying(1, 0), 0);
        x.letter(0, 1, 1);
        due("after letter", x.layings(), 2);
        due("laying", x.laying(1, 0), 1);
        x.out(0, true);
        due("after out", x.rivals(0), APART);
        x.out(0, false);
        x.mark(0, 1, 1);
        x.bar(0, 1);
        due("after bar", x.layings(), 2);
        due("after bar", x.rivals(0), APART);
        x.free();
        due("after free", x.rivals(0), 2);
        x.keep();
        x.piece(1, 1, 0);
        due("after piece", x.layings(), 4);
        x.drop();
        due("after drop", x.layings(), 2);
        x.sheet(1, 1);
        due("after sheet", x.layings(), 1);
        x.back();
        due("after back", x.layings(), 2);
        due("order", x.order(1, 0), 0);
        x.letter(1, 1, 1);
        due("order", x.order(1, 1), 1);
        x.wear(0, 1);
        due("after wear", x.order(1, 1), 0);
        x.dated(0, 1, 0);
        x.dated(1, 2, 0);
        due("after dated", x.inverted(), 1);
    }

    private static void run(int number) {
        promise = number;
        switch (number) {
            case 1: newObject(); break;
            case 2: sheet(); break;
            case 3: piece(); break;
            case 4: drop(); break;
            case 5: mark(); break;
            case 6: like(); break;
            case 7: letter(); break;
            case 8: wear(); break;
            case 9: dated(); break;
            case 10: out(); break;
            case 11: bar(); break;
            case 12: free(); break;
            case 13: of(); break;
            case 14: told(); break;
            case 15: quarrel(); break;
            case 16: layings(); break;
            case 17: laying(); break;
            case 18: place(); break;
            case 19: rivals(); break;
            case 20: order(); break;
            case 21: known(); break;
            case 22: changes(); break;
            case 23: breaks(); break;
            case 24: inverted(); break;
            case 25: span(); break;
            case 26: unseen(); break;
            case 27: many(); break;
            case 28: keep(); break;
            case 29: back(); break;
            default: changesAreSeen(); break;
        }
    }

    public static void main(String[] args) {
        for (int number = 1; number <= 30; number++) {
            run(number);
        }
        System.out.println(wrong == 0 ? "all promises are kept" : wrong + " answers are not as due");
        if (wrong != 0) {
            System.exit(1);
        }
    }
}
