import java.util.Arrays;

/** A table where stamps of one sheet are put together; see README.md. */
public final class StampSheet {
    public static final int NUMBER = -1;
    public static final int FULL = -2;
    public static final int TWICE = -3;
    public static final int NONE = -4;
    public static final int APART = -5;
    public static final int RIVALS = -6;

    private static final int NO_SUCH_FACT = -1000;
    private static final int UNSURE = -1;

    private static final int MOST_ROWS = 3;
    private static final int MOST_COLUMNS = 4;
    private static final int MOST_PLACES = 9;
    private static final int MOST_PIECES = 5;
    private static final int MOST_PIECE_ROWS = 2;
    private static final int MOST_PIECE_COLUMNS = 3;
    private static final int MOST_COPIES = MOST_PIECES * MOST_PIECE_ROWS * MOST_PIECE_COLUMNS;
    private static final int MOST_BARS = 6;
    private static final int MARKS = 8;
    private static final int SHADES = 6;
    private static final int MOST_WEAR = 99;
    private static final int LAST_DAY = 999;
    private static final int CHANGES_WITHOUT_BREAK = 2;

    private static final int ABOVE = 1;
    private static final int LEFT = 2;
    private static final int BELOW = 4;
    private static final int RIGHT = 8;
    private static final int ALL_MARGINS = ABOVE | LEFT | BELOW | RIGHT;

    private static final int NOT_THERE = 0;
    private static final int THERE = 1;
    private static final int HIDDEN = 2;
    private static final int BOTH_WAYS = 3;

    /**
     * What stands in a piece's row; the first four are numbered as told() numbers them. END is
     * the number behind that of its last copy.
     */
    private static final int PIECE_ROWS = 0;
    private static final int PIECE_COLUMNS = 1;
    private static final int PIECE_MARGINS = 2;
    private static final int PIECE_FIRST = 3;
    private static final int PIECE_END = 4;
    private static final int PIECE_OUT = 5;
    private static final int PIECE_FACTS = 6;

    /** What told() answers beyond a piece's row. */
    private static final int TOLD_FORGED = 4;
    private static final int TOLD_TAKES_PART = 5;

    /** What stands in a copy's row; all but the marks' bits are numbered as of() numbers them. */
    private static final int COPY_PIECE = 0;
    private static final int COPY_ROW = 1;
    private static final int COPY_COLUMN = 2;
    private static final int COPY_ROW_LETTER = 3;
    private static final int COPY_COLUMN_LETTER = 4;
    private static final int COPY_WEAR = 5;
    private static final int COPY_DAY = 6;
    private static final int COPY_SHADE = 7;
    private static final int COPY_THERE = 8;
    private static final int COPY_NOT_THERE = 9;
    private static final int COPY_FACTS = 10;

    /** Where of() begins with the marks. */
    private static final int OF_MARKS = 8;

    private final State state = new State();
    private final State kept = new State();
    private final Search search = new Search(state);
    private final Sure sure = new Sure(state, search);
    private boolean somethingIsKept = false;

    public StampSheet() {
    }

    // ---- what is told

    public int sheet(int rows, int columns) {
        if (!isWithin(rows, 1, MOST_ROWS) || !isWithin(columns, 1, MOST_COLUMNS)
                || rows * columns > MOST_PLACES) {
            return NUMBER;
        }
        state.startSheet(rows, columns);
        search.forget();
        return state.places();
    }

    public int piece(int rows, int columns, int margins) {
        if (!isWithin(rows, 1, MOST_PIECE_ROWS) || !isWithin(columns, 1, MOST_PIECE_COLUMNS)
                || !isWithin(margins, 0, ALL_MARGINS)) {
            return NUMBER;
        }
        if (state.pieces >= MOST_PIECES) {
            return FULL;
        }
        search.forget();
        return state.addPiece(rows, columns, margins);
    }

    public int drop() {
        if (state.pieces == 0) {
            return NONE;
        }
        search.forget();
        return state.dropPiece();
    }

    public int mark(int copy, int mark, int is) {
        if (!state.hasCopy(copy) || !isMark(mark) || !isWithin(is, NOT_THERE, HIDDEN)) {
            return NUMBER;
        }
        int was = state.markOf(copy, mark);
        state.putMark(copy, mark, is);
        search.forget();
        return was;
    }

    public int like(int copy, int other) {
        if (!state.hasCopy(copy) || !state.hasCopy(other)) {
            return NUMBER;
        }
        search.forget();
        return state.copyMarks(copy, other);
    }

    public int letter(int copy, int letter, int v) {
        if (!state.hasCopy(copy) || !isWithin(letter, 0, 1)) {
            return NUMBER;
        }
        int letters = letter == 0 ? MOST_ROWS : MOST_COLUMNS;
        if (!isWithin(v, -1, letters - 1)) {
            return NUMBER;
        }
        state.putCopyFact(copy, COPY_ROW_LETTER + letter, v);
        search.forget();
        return 1;
    }

    public int wear(int copy, int v) {
        if (!state.hasCopy(copy) || !isWithin(v, 0, MOST_WEAR)) {
            return NUMBER;
        }
        int was = state.copyFact(copy, COPY_WEAR);
        state.putCopyFact(copy, COPY_WEAR, v);
        return was;
    }

    public int dated(int copy, int day, int shade) {
        if (!state.hasCopy(copy) || !isWithin(day, -1, LAST_DAY) || !isShade(shade)) {
            return NUMBER;
        }
        state.putCopyFact(copy, COPY_DAY, day);
        state.putCopyFact(copy, COPY_SHADE, shade);
        return 1;
    }

    public int out(int piece, boolean is) {
        if (!state.hasPiece(piece)) {
            return NUMBER;
        }
        if (state.isOut(piece) == is) {
            return 0;
        }
        state.putOut(piece, is);
        search.forget();
        return 1;
    }

    public int bar(int mark, int other) {
        if (!isMark(mark) || !isMark(other) || mark == other) {
            return NUMBER;
        }
        if (state.hasBar(mark, other)) {
            return TWICE;
        }
        if (state.bars >= MOST_BARS) {
            return FULL;
        }
        search.forget();
        return state.addBar(mark, other);
    }

    public int free() {
        search.forget();
        return state.freeBars();
    }

    public int of(int copy, int what) {
        if (!state.hasCopy(copy) || !isWithin(what, 0, OF_MARKS + MARKS - 1)) {
            return NO_SUCH_FACT;
        }
        if (what >= OF_MARKS) {
            return state.markOf(copy, what - OF_MARKS);
        }
        return state.copyFact(copy, what);
    }

    public int told(int piece, int what) {
        if (!state.hasPiece(piece) || !isWithin(what, 0, TOLD_TAKES_PART)) {
            return NUMBER;
        }
        if (what == TOLD_FORGED) {
            return state.isForged(piece) ? 1 : 0;
        }
        if (what == TOLD_TAKES_PART) {
            return state.takesPart(piece) ? 1 : 0;
        }
        return state.pieceFact(piece, what);
    }

    // ---- layings

    public int quarrel() {
        search.settle();
        return search.count == 0 ? NONE : search.least;
    }

    public int layings() {
        search.settle();
        return search.count;
    }

    public int laying(int k, int piece) {
        if (!state.hasPiece(piece)) {
            return NUMBER;
        }
        if (!state.takesPart(piece)) {
            return APART;
        }
        search.settle();
        return isWithin(k, 0, search.count - 1) ? search.spotIn(k, piece) : NONE;
    }

    public int place(int copy) {
        int refusal = refusalOf(copy);
        if (refusal != 0) {
            return refusal;
        }
        int place = search.surePlace[copy];
        return place == UNSURE ? RIVALS : place;
    }

    public int rivals(int copy) {
        int refusal = refusalOf(copy);
        return refusal != 0 ? refusal : search.placesOf(copy);
    }

    // ---- what is sure

    public int order(int place, int i) {
        if (!state.hasPlace(place)) {
            return NUMBER;
        }
        search.settle();
        int size = sure.lineUp(place);
        return isWithin(i, 0, size - 1) ? sure.line[i] : NONE;
    }

    public int known(int place, int mark) {
        if (!state.hasPlace(place) || !isMark(mark)) {
            return NUMBER;
        }
        search.settle();
        return sure.knownOf(sure.lineUp(place), mark);
    }

    public int changes(int place, int mark) {
        if (!state.hasPlace(place) || !isMark(mark)) {
            return NUMBER;
        }
        search.settle();
        return sure.changesOf(sure.lineUp(place), mark);
    }

    public int breaks(int place) {
        if (!state.hasPlace(place)) {
            return NUMBER;
        }
        search.settle();
        return sure.breaksOf(sure.lineUp(place));
    }

    public int inverted() {
        search.settle();
        return sure.invertedPairs();
    }

    public int span(int shade, int what) {
        if (!isShade(shade) || !isWithin(what, 0, 2)) {
            return NUMBER;
        }
        int dated = state.datedOf(shade);
        if (what == 2) {
            return dated;
        }
        if (dated == 0) {
            return NONE;
        }
        return what == 0 ? state.earliestOf(shade) : state.latestOf(shade);
    }

    public int unseen(int what) {
        if (!isWithin(what, 0, 2)) {
            return NUMBER;
        }
        search.settle();
        if (what == 0) {
            return state.places() - sure.placesWith(0);
        }
        int once = sure.placesWith(1);
        int twice = sure.placesWith(2);
        int above = twice > 0 ? once * once : once * (once - 1);
        int below = twice > 0 ? 2 * twice : 2;
        if (above == 0) {
            return what == 1 ? 0 : 1;
        }
        return cleared(what == 1 ? above : below, what == 1 ? below : above);
    }

    public int many(int what) {
        switch (what) {
            case 0:
                return state.places();
            case 1:
                return state.pieces;
            case 2:
                return state.copies;
            case 3:
                return state.bars;
            case 4:
                return state.forgedPieces();
            case 5:
                return state.takingPieces();
            case 6:
                search.settle();
                return sure.copies();
            default:
                return NUMBER;
        }
    }

    // ---- kept

    public int keep() {
        kept.copyFrom(state);
        somethingIsKept = true;
        return 1;
    }

    public int back() {
        if (!somethingIsKept) {
            return NONE;
        }
        state.copyFrom(kept);
        search.forget();
        return 1;
    }

    /** Why there is nothing to say of a copy's places; 0 if there is. */
    private int refusalOf(int copy) {
        if (!state.hasCopy(copy)) {
            return NUMBER;
        }
        if (!state.takesPart(state.copyFact(copy, COPY_PIECE))) {
            return APART;
        }
        search.settle();
        return search.count == 0 ? NONE : 0;
    }

    private static boolean isWithin(int number, int least, int most) {
        return number >= least && number <= most;
    }

    private static boolean isIn(int bits, int number) {
        return (bits >> number & 1) == 1;
    }

    private static boolean isMark(int mark) {
        return isWithin(mark, 0, MARKS - 1);
    }

    private static boolean isShade(int shade) {
        return isWithin(shade, 0, SHADES - 1);
    }

    /** A number divided by the greatest divisor that it has in common with another one. */
    private static int cleared(int number, int other) {
        for (int divisor = number; divisor > 1; divisor--) {
            if (number % divisor == 0 && other % divisor == 0) {
                return number / divisor;
            }
        }
        return number;
    }

    /** What has been told: the sheet, its pieces with their copies, and the bars. */
    private static final class State {
        int rows = 1;
        int columns = 1;
        int pieces = 0;
        int copies = 0;
        int bars = 0;
        private final int[] ofPieces = new int[MOST_PIECES * PIECE_FACTS];
        private final int[] ofCopies = new int[MOST_COPIES * COPY_FACTS];
        /** For each mark the marks that can't be together with it, as bits. */
        private final int[] barred = new int[MARKS];

        void copyFrom(State other) {
            rows = other.rows;
            columns = other.columns;
            pieces = other.pieces;
            copies = other.copies;
            bars = other.bars;
            System.arraycopy(other.ofPieces, 0, ofPieces, 0, ofPieces.length);
            System.arraycopy(other.ofCopies, 0, ofCopies, 0, ofCopies.length);
            System.arraycopy(other.barred, 0, barred, 0, barred.length);
        }

        int places() {
            return rows * columns;
        }

        boolean hasPlace(int place) {
            return isWithin(place, 0, places() - 1);
        }

        boolean hasPiece(int piece) {
            return isWithin(piece, 0, pieces - 1);
        }

        boolean hasCopy(int copy) {
            return isWithin(copy, 0, copies - 1);
        }

        int pieceFact(int piece, int what) {
            return ofPieces[piece * PIECE_FACTS + what];
        }

        int copyFact(int copy, int what) {
            return ofCopies[copy * COPY_FACTS + what];
        }

        void putCopyFact(int copy, int what, int v) {
            ofCopies[copy * COPY_FACTS + what] = v;
        }

        void startSheet(int newRows, int newColumns) {
            rows = newRows;
            columns = newColumns;
            pieces = 0;
            copies = 0;
        }

        int addPiece(int pieceRows, int pieceColumns, int margins) {
            int piece = pieces;
            int at = piece * PIECE_FACTS;
            ofPieces[at + PIECE_ROWS] = pieceRows;
            ofPieces[at + PIECE_COLUMNS] = pieceColumns;
            ofPieces[at + PIECE_MARGINS] = margins;
            ofPieces[at + PIECE_FIRST] = copies;
            ofPieces[at + PIECE_END] = copies + pieceRows * pieceColumns;
            ofPieces[at + PIECE_OUT] = 0;
            for (int row = 0; row < pieceRows; row++) {
                for (int column = 0; column < pieceColumns; column++) {
                    addCopy(piece, row, column);
                }
            }
            pieces++;
            return piece;
        }

        private void addCopy(int piece, int row, int column) {
            int at = copies * COPY_FACTS;
            ofCopies[at + COPY_PIECE] = piece;
            ofCopies[at + COPY_ROW] = row;
            ofCopies[at + COPY_COLUMN] = column;
            ofCopies[at + COPY_ROW_LETTER] = -1;
            ofCopies[at + COPY_COLUMN_LETTER] = -1;
            ofCopies[at + COPY_WEAR] = 0;
            ofCopies[at + COPY_DAY] = -1;
            ofCopies[at + COPY_SHADE] = 0;
            ofCopies[at + COPY_THERE] = 0;
            ofCopies[at + COPY_NOT_THERE] = 0;
            copies++;
        }

        int dropPiece() {
            pieces--;
            copies = pieceFact(pieces, PIECE_FIRST);
            return pieces;
        }

        boolean isOut(int piece) {
            return pieceFact(piece, PIECE_OUT) == 1;
        }

        void putOut(int piece, boolean is) {
            ofPieces[piece * PIECE_FACTS + PIECE_OUT] = is ? 1 : 0;
        }

        boolean hasBar(int mark, int other) {
            return isIn(barred[mark], other);
        }

        int addBar(int mark, int other) {
            barred[mark] |= 1 << other;
            barred[other] |= 1 << mark;
            bars++;
            return bars;
        }

        int freeBars() {
            int were = bars;
            Arrays.fill(barred, 0);
            bars = 0;
            return were;
        }

        int markOf(int copy, int mark) {
            if (isIn(copyFact(copy, COPY_THERE), mark)) {
                return THERE;
            }
            return isIn(copyFact(copy, COPY_NOT_THERE), mark) ? NOT_THERE : HIDDEN;
        }

        void putMark(int copy, int mark, int is) {
            int bit = 1 << mark;
            int there = copyFact(copy, COPY_THERE) & ~bit;
            int notThere = copyFact(copy, COPY_NOT_THERE) & ~bit;
            putCopyFact(copy, COPY_THERE, is == THERE ? there | bit : there);
            putCopyFact(copy, COPY_NOT_THERE, is == NOT_THERE ? notThere | bit : notThere);
        }

        /** Gives a copy the marks of another one: how many it changes. */
        int copyMarks(int copy, int other) {
            int there = copyFact(other, COPY_THERE);
            int notThere = copyFact(other, COPY_NOT_THERE);
            int changed = there ^ copyFact(copy, COPY_THERE);
            changed |= notThere ^ copyFact(copy, COPY_NOT_THERE);
            putCopyFact(copy, COPY_THERE, there);
            putCopyFact(copy, COPY_NOT_THERE, notThere);
            return Integer.bitCount(changed);
        }

        private boolean isBarred(int there) {
            for (int mark = 0; mark < MARKS; mark++) {
                if ((there >> mark & 1) == 1 && (there & barred[mark]) != 0) {
                    return true;
                }
            }
            return false;
        }

        boolean isForged(int piece) {
            int end = pieceFact(piece, PIECE_END);
            for (int copy = pieceFact(piece, PIECE_FIRST); copy < end; copy++) {
                if (isBarred(copyFact(copy, COPY_THERE))) {
                    return true;
                }
            }
            return false;
        }

        boolean takesPart(int piece) {
            return !isOut(piece) && !isForged(piece);
        }

        int forgedPieces() {
            int forged = 0;
            for (int piece = 0; piece < pieces; piece++) {
                if (isForged(piece)) {
                    forged++;
                }
            }
            return forged;
        }

        int takingPieces() {
            int taking = 0;
            for (int piece = 0; piece < pieces; piece++) {
                if (takesPart(piece)) {
                    taking++;
                }
            }
            return taking;
        }

        /**
         * How far a copy's place is from that of its piece's upper left copy. The piece is
         * whole on the sheet, so places that go by rows make this the same wherever it lies.
         */
        int offsetOf(int copy) {
            return copyFact(copy, COPY_ROW) * columns + copyFact(copy, COPY_COLUMN);
        }

        /** The places where a piece's upper left copy may lie, as bits. */
        int spotsOf(int piece) {
            int lastRow = rows - pieceFact(piece, PIECE_ROWS);
            int lastColumn = columns - pieceFact(piece, PIECE_COLUMNS);
            int spots = 0;
            for (int row = 0; row <= lastRow; row++) {
                for (int column = 0; column <= lastColumn; column++) {
                    if (keepsMargins(piece, row, column) && keepsLetters(piece, row, column)) {
                        spots |= 1 << (row * columns + column);
                    }
                }
            }
            return spots;
        }

        private boolean keepsMargins(int piece, int row, int column) {
            int margins = pieceFact(piece, PIECE_MARGINS);
            int rim = 0;
            rim |= row == 0 ? ABOVE : 0;
            rim |= column == 0 ? LEFT : 0;
            rim |= row + pieceFact(piece, PIECE_ROWS) == rows ? BELOW : 0;
            rim |= column + pieceFact(piece, PIECE_COLUMNS) == columns ? RIGHT : 0;
            return (margins & rim) == margins;
        }

        private boolean keepsLetters(int piece, int row, int column) {
            int end = pieceFact(piece, PIECE_END);
            for (int copy = pieceFact(piece, PIECE_FIRST); copy < end; copy++) {
                int rowLetter = copyFact(copy, COPY_ROW_LETTER);
                int columnLetter = copyFact(copy, COPY_COLUMN_LETTER);
                if (rowLetter != -1 && rowLetter != row + copyFact(copy, COPY_ROW)) {
                    return false;
                }
                if (columnLetter != -1 && columnLetter != column + copyFact(copy, COPY_COLUMN)) {
                    return false;
                }
            }
            return true;
        }

        private boolean isInSpan(int copy, int shade) {
            return copyFact(copy, COPY_SHADE) == shade && copyFact(copy, COPY_DAY) != -1
                    && takesPart(copyFact(copy, COPY_PIECE));
        }

        int datedOf(int shade) {
            int dated = 0;
            for (int copy = 0; copy < copies; copy++) {
                if (isInSpan(copy, shade)) {
                    dated++;
                }
            }
            return dated;
        }

        int earliestOf(int shade) {
            int earliest = LAST_DAY;
            for (int copy = 0; copy < copies; copy++) {
                if (isInSpan(copy, shade)) {
                    earliest = Math.min(earliest, copyFact(copy, COPY_DAY));
                }
            }
            return earliest;
        }

        int latestOf(int shade) {
            int latest = 0;
            for (int copy = 0; copy < copies; copy++) {
                if (isInSpan(copy, shade)) {
                    latest = Math.max(latest, copyFact(copy, COPY_DAY));
                }
            }
            return latest;
        }
    }

    /** How much two pieces quarrel, for each pair of spots of theirs. */
    private static final class Clashes {
        private final State state;
        private final int[] there = new int[MOST_COPIES];
        private final int[] notThere = new int[MOST_COPIES];
        private final int[] offset = new int[MOST_COPIES];
        final int[] between = new int[MOST_PIECES * MOST_PIECES * MOST_PLACES * MOST_PLACES];

        Clashes(State state) {
            this.state = state;
        }

        /** Where the clashes of a piece on a spot with a later one begin, by the later's spots. */
        static int rowOf(int piece, int later, int spot) {
            return ((piece * MOST_PIECES + later) * MOST_PLACES + spot) * MOST_PLACES;
        }

        void readCopies() {
            for (int copy = 0; copy < state.copies; copy++) {
                there[copy] = state.copyFact(copy, COPY_THERE);
                notThere[copy] = state.copyFact(copy, COPY_NOT_THERE);
                offset[copy] = state.offsetOf(copy);
            }
        }

        /** Reckons a piece against a later one: whether they quarrel anywhere. */
        boolean reckon(int piece, int later, int spots, int laterSpots) {
            boolean quarrels = false;
            int places = state.places();
            for (int spot = 0; spot < places; spot++) {
                int row = rowOf(piece, later, spot);
                for (int laterSpot = 0; laterSpot < places; laterSpot++) {
                    if (isIn(spots, spot) && isIn(laterSpots, laterSpot)) {
                        between[row + laterSpot] = clashOf(piece, later, spot - laterSpot);
                        quarrels |= between[row + laterSpot] > 0;
                    }
                }
            }
            return quarrels;
        }

        /** The clash of a piece with one whose spot is so many places ahead of its own. */
        private int clashOf(int piece, int later, int ahead) {
            int end = state.pieceFact(piece, PIECE_END);
            int laterFirst = state.pieceFact(later, PIECE_FIRST);
            int laterEnd = state.pieceFact(later, PIECE_END);
            int clash = 0;
            for (int copy = state.pieceFact(piece, PIECE_FIRST); copy < end; copy++) {
                for (int other = laterFirst; other < laterEnd; other++) {
                    if (offset[copy] + ahead == offset[other]) {
                        clash += Integer.bitCount(there[copy] & notThere[other])
                                + Integer.bitCount(notThere[copy] & there[other]);
                    }
                }
            }
            return clash;
        }
    }

    /**
     * The best layings. Pieces that can quarrel, straight or by way of others, make a group
     * named by its first piece; groups are searched each by itself, so that pieces without a
     * quarrel don't multiply the work. Nothing is listed: a laying is found by counting.
     */
    private static final class Search {
        private static final int LOADS = MOST_PIECES * MOST_PLACES;
        private static final int ABOVE_ALL_QUARRELS = 1000000;

        private final State state;
        private final Clashes clashes;
        private boolean stale = true;
        private int places = 1;
        int count = 0;
        int least = 0;
        final int[] surePlace = new int[MOST_COPIES];
        /** The lowest quarrel of a group that has been met so far. */
        private int lowest = 0;
        private int pickedLaying = -1;
        private final boolean[] takes = new boolean[MOST_PIECES];
        private final int[] group = new int[MOST_PIECES];
        private final int[] follower = new int[MOST_PIECES];
        /** Spots that a piece may be laid on in the present search, as bits. */
        private final int[] open = new int[MOST_PIECES];
        /** Spots that a piece has in some best laying, as bits. */
        private final int[] best = new int[MOST_PIECES];
        private final int[] groupLeast = new int[MOST_PIECES];
        private final int[] groupWays = new int[MOST_PIECES];
        private final int[] waysLeft = new int[MOST_PIECES];
        private final int[] picked = new int[MOST_PIECES];
        /** When a piece is to be laid: of it and later ones, the quarrel with those laid. */
        private final int[] load = new int[MOST_PIECES * LOADS];

        Search(State state) {
            this.state = state;
            this.clashes = new Clashes(state);
        }

        void forget() {
            stale = true;
        }

        /** Comes ahead of every question, as what is told may have changed. */
        void settle() {
            if (!stale) {
                return;
            }
            stale = false;
            pickedLaying = -1;
            places = state.places();
            least = 0;
            count = 0;
            if (openSpots()) {
                formGroups();
                searchGroups();
            }
            findSurePlaces();
        }

        /** The places of a copy in some best laying, as bits. */
        int placesOf(int copy) {
            return best[state.copyFact(copy, COPY_PIECE)] << state.offsetOf(copy);
        }

        /** The spot of a piece that takes part, in best laying k, which there is. */
        int spotIn(int k, int piece) {
            if (pickedLaying != k) {
                pick(k);
                pickedLaying = k;
            }
            return picked[piece];
        }

        /** Finds the spots of each piece: whether all that take part have one. */
        private boolean openSpots() {
            boolean all = true;
            for (int piece = 0; piece < MOST_PIECES; piece++) {
                takes[piece] = state.hasPiece(piece) && state.takesPart(piece);
                open[piece] = takes[piece] ? state.spotsOf(piece) : 0;
                best[piece] = 0;
                all &= !takes[piece] || open[piece] != 0;
            }
            return all;
        }

        private void formGroups() {
            clashes.readCopies();
            for (int piece = 0; piece < MOST_PIECES; piece++) {
                group[piece] = piece;
                for (int ahead = 0; ahead < piece; ahead++) {
                    if (takes[ahead] && takes[piece]
                            && clashes.reckon(ahead, piece, open[ahead], open[piece])) {
                        join(group[ahead], group[piece]);
                    }
                }
            }
            for (int piece = 0; piece < MOST_PIECES; piece++) {
                follower[piece] = nextOfGroup(piece);
            }
        }

        private void join(int one, int other) {
            int first = Math.min(one, other);
            int joined = Math.max(one, other);
            for (int piece = 0; piece < MOST_PIECES; piece++) {
                if (group[piece] == joined) {
                    group[piece] = first;
                }
            }
        }

        /** The next piece of a piece's group, or MOST_PIECES if it is the last one. */
        private int nextOfGroup(int piece) {
            int next = piece + 1;
            while (next < MOST_PIECES && group[next] != group[piece]) {
                next++;
            }
            return next;
        }

        private boolean leadsGroup(int piece) {
            return takes[piece] && group[piece] == piece;
        }

        private void searchGroups() {
            count = 1;
            for (int first = 0; first < MOST_PIECES; first++) {
                if (leadsGroup(first)) {
                    // what another grouping left here; nothing of this one is laid ahead of it
                    Arrays.fill(load, first * LOADS, (first + 1) * LOADS, 0);
                    lowest = ABOVE_ALL_QUARRELS;
                    lower(first, 0);
                    groupLeast[first] = lowest;
                    groupWays[first] = ways(first, lowest);
                    least += lowest;
                    count *= groupWays[first];
                }
            }
        }

        private void findSurePlaces() {
            for (int copy = 0; copy < state.copies; copy++) {
                int bits = placesOf(copy);
                surePlace[copy] =
                        Integer.bitCount(bits) == 1 ? Integer.numberOfTrailingZeros(bits) : UNSURE;
            }
        }

        /** What a piece would quarrel on a spot with those of its group that are laid. */
        private int loadOf(int piece, int spot) {
            return load[piece * LOADS + piece * MOST_PLACES + spot];
        }

        /** The open spots where a piece would quarrel no more than so much, as bits. */
        private int spotsWithin(int piece, int most) {
            int row = piece * LOADS + piece * MOST_PLACES;
            int spots = 0;
            for (int spot = 0; spot < places; spot++) {
                if (load[row + spot] <= most) {
                    spots |= 1 << spot;
                }
            }
            return spots & open[piece];
        }

        /** Lays a piece on a spot: later ones of its group bear what they quarrel with it. */
        private void lay(int piece, int spot) {
            int next = follower[piece];
            for (int later = next; later < MOST_PIECES; later++) {
                if (group[later] == group[piece]) {
                    int from = piece * LOADS + later * MOST_PLACES;
                    int to = next * LOADS + later * MOST_PLACES;
                    int row = Clashes.rowOf(piece, later, spot);
                    for (int at = 0; at < places; at++) {
                        load[to + at] = load[from + at] + clashes.between[row + at];
                    }
                }
            }
        }

        /** Takes lowest down to the least quarrel of a piece and its followers upon quarrel. */
        private void lower(int piece, int quarrel) {
            if (piece >= MOST_PIECES) {
                lowest = quarrel;
                return;
            }
            for (int spot = 0; spot < places; spot++) {
                if (isIn(open[piece], spot) && quarrel + loadOf(piece, spot) < lowest) {
                    lay(piece, spot);
                    lower(follower[piece], quarrel + loadOf(piece, spot));
                }
            }
        }

        /**
         * How many ways a piece and its followers can be laid for the quarrel that is left.
         * That is what the least leaves, so no way has less; spots met this way are best ones.
         */
        private int ways(int piece, int left) {
            int spots = spotsWithin(piece, left);
            int next = follower[piece];
            if (next >= MOST_PIECES) {
                best[piece] |= spots;
                return Integer.bitCount(spots);
            }
            int all = 0;
            for (int spot = 0; spot < places; spot++) {
                if (isIn(spots, spot)) {
                    lay(piece, spot);
                    int found = ways(next, left - loadOf(piece, spot));
                    best[piece] |= found > 0 ? 1 << spot : 0;
                    all += found;
                }
            }
            return all;
        }

        private void pick(int k) {
            int skip = k;
            for (int piece = 0; piece < MOST_PIECES; piece++) {
                open[piece] = best[piece];
                waysLeft[piece] = groupWays[piece];
            }
            for (int piece = 0; piece < MOST_PIECES; piece++) {
                if (takes[piece]) {
                    skip = pickSpot(piece, skip);
                }
            }
        }

        /**
         * Binds a piece to its spot, those ahead of it being bound already: how many layings
         * with this spot are still to be skipped.
         */
        private int pickSpot(int piece, int skip) {
            int first = group[piece];
            int others = waysOfOthers(first);
            int left = skip;
            for (int spot = 0; spot < places; spot++) {
                if (isIn(best[piece], spot)) {
                    open[piece] = 1 << spot;
                    int found = ways(first, groupLeast[first]);
                    if (left < found * others) {
                        waysLeft[first] = found;
                        picked[piece] = spot;
                        return left;
                    }
                    left -= found * others;
                }
            }
            return left;
        }

        private int waysOfOthers(int first) {
            int others = 1;
            for (int piece = 0; piece < MOST_PIECES; piece++) {
                if (leadsGroup(piece) && piece != first) {
                    others *= waysLeft[piece];
                }
            }
            return others;
        }
    }

    /** What the sure copies tell, as a settled search has found them. */
    private static final class Sure {
        private final State state;
        private final Search search;
        /** The order of the place lined up latest, where each piece has one copy at most. */
        final int[] line = new int[MOST_PIECES];

        Sure(State state, Search search) {
            this.state = state;
            this.search = search;
        }

        int copies() {
            int copies = 0;
            for (int copy = 0; copy < state.copies; copy++) {
                if (search.surePlace[copy] != UNSURE) {
                    copies++;
                }
            }
            return copies;
        }

        /** Puts the sure copies of a place into the line, by wear: how many there are. */
        int lineUp(int place) {
            int size = 0;
            for (int copy = 0; copy < state.copies && size < line.length; copy++) {
                if (search.surePlace[copy] == place) {
                    insert(copy, size);
                    size++;
                }
            }
            return size;
        }

        private void insert(int copy, int size) {
            int wear = state.copyFact(copy, COPY_WEAR);
            int at = size;
            while (at > 0 && state.copyFact(line[at - 1], COPY_WEAR) > wear) {
                line[at] = line[at - 1];
                at--;
            }
            line[at] = copy;
        }

        int knownOf(int size, int mark) {
            int known = HIDDEN;
            for (int i = 0; i < size; i++) {
                int is = state.markOf(line[i], mark);
                if (known == HIDDEN) {
                    known = is;
                } else if (is != HIDDEN && is != known) {
                    return BOTH_WAYS;
                }
            }
            return known;
        }

        int changesOf(int size, int mark) {
            int changes = 0;
            int ahead = HIDDEN;
            for (int i = 0; i < size; i++) {
                int is = state.markOf(line[i], mark);
                if (is != HIDDEN) {
                    changes += ahead != HIDDEN && ahead != is ? 1 : 0;
                    ahead = is;
                }
            }
            return changes;
        }

        int breaksOf(int size) {
            int breaks = 0;
            for (int mark = 0; mark < MARKS; mark++) {
                breaks += Math.max(0, changesOf(size, mark) - CHANGES_WITHOUT_BREAK);
            }
            return breaks;
        }

        int invertedPairs() {
            int pairs = 0;
            for (int place = 0; place < state.places(); place++) {
                pairs += invertedInLine(lineUp(place));
            }
            return pairs;
        }

        private int invertedInLine(int size) {
            int pairs = 0;
            for (int i = 1; i < size; i++) {
                for (int ahead = 0; ahead < i; ahead++) {
                    if (areInverted(line[ahead], line[i])) {
                        pairs++;
                    }
                }
            }
            return pairs;
        }

        /** Of two copies in line, so that the one ahead has no more wear than the other one. */
        private boolean areInverted(int ahead, int behind) {
            int day = state.copyFact(ahead, COPY_DAY);
            int dayBehind = state.copyFact(behind, COPY_DAY);
            return state.copyFact(ahead, COPY_WEAR) != state.copyFact(behind, COPY_WEAR)
                    && dayBehind != -1 && day > dayBehind;
        }

        /** How many places have just so many sure copies. */
        int placesWith(int copies) {
            int found = 0;
            for (int place = 0; place < state.places(); place++) {
                if (lineUp(place) == copies) {
                    found++;
                }
            }
            return found;
        }
    }
}
