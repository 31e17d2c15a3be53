import java.lang.management.ManagementFactory;

/**
 * The document's limit of 512 calls on an object, the room that they take, and that no number
 * makes a call throw or fail to end, within the limit or beyond it.
 */
public final class LimitTests {
    private static final int MOST_CALLS = 512;
    /** A table of some thousand numbers; calls make nothing. */
    private static final long ROOM_OF_A_TABLE = 40_000;
    private static final long ROOM_OF_CALLS = 1_000;
    private static final int[] ODD = {Integer.MIN_VALUE, Integer.MIN_VALUE + 1, -65536, -1000, -33, -32, -2, -1, 0, 1,
        2, 3, 4, 5, 7, 8, 9, 15, 16, 29, 30, 31, 32, 33, 99, 100, 999, 1000, 65536, 59049, Integer.MAX_VALUE - 1,
        Integer.MAX_VALUE};

    private static int wrong = 0;

    private static void check(boolean holds, String what) {
        if (!holds) {
            wrong++;
            System.out.println("not so: " + what);
        }
    }

    private static void due(String what, int got, int want) {
        check(got == want, what + " answered " + got + ", due is " + want);
    }

    /** As many pieces, copies and bars as there can be, in 12 calls. */
    private static StampSheet fullTable() {
        StampSheet x = new StampSheet();
        x.sheet(3, 3);
        for (int piece = 0; piece < 5; piece++) {
            x.piece(2, 3, 0);
        }
        for (int mark = 1; mark <= 6; mark++) {
            x.bar(0, mark);
        }
        return x;
    }

    /** Marks 1 to 7 of a copy, told anew in each round. */
    private static int markIn(int round) {
        return (round * 7 + round / 5) % 3;
    }

    private static void tellRound(StampSheet x, int round) {
        x.mark(round * 11 % 30, 1 + round % 7, markIn(round));
    }

    /** The last call that the limit leaves answers as on an object that has had fewer calls. */
    private static void lastCallIsAnswered() {
        StampSheet x = fullTable();
        StampSheet told = fullTable();
        int rounds = (MOST_CALLS - 12) / 4;
        for (int round = 0; round < rounds; round++) {
            tellRound(x, round);
            tellRound(told, round);
            int layings = x.layings();
            x.quarrel();
            int last = x.laying(layings - 1, round % 5);
            if (round == rounds - 1) {
                due("layings() as call 510", layings, told.layings());
                due("laying() as call 512", last, told.laying(layings - 1, round % 5));
                check(layings > 0 && last >= 0, "there is a laying in the end");
            }
        }
    }

    /** What one call can tell it can take back by another, up to the limit. */
    private static void nothingFillsUp() {
        StampSheet x = new StampSheet();
        for (int call = 0; call < MOST_CALLS; call += 2) {
            due("piece", x.piece(1, 1, 0), 0);
            due("drop", x.drop(), 0);
        }
        x = new StampSheet();
        for (int call = 0; call < MOST_CALLS; call += 2) {
            due("bar", x.bar(call % 8, (call + 1) % 8), 1);
            due("free", x.free(), 1);
        }
        x = new StampSheet();
        for (int call = 0; call < MOST_CALLS; call += 2) {
            due("keep", x.keep(), 1);
            due("back", x.back(), 1);
        }
        x = new StampSheet();
        for (int call = 0; call < MOST_CALLS; call++) {
            due("sheet", x.sheet(1 + call % 3, 1 + call % 2), (1 + call % 3) * (1 + call % 2));
        }
    }

    /** Two tables don't know of each other. */
    private static void tablesAreApart() {
        StampSheet x = fullTable();
        x.keep();
        StampSheet y = new StampSheet();
        due("many(0)", y.many(0), 1);
        due("many(1)", y.many(1), 0);
        due("many(3)", y.many(3), 0);
        due("back()", y.back(), StampSheet.NONE);
        y.piece(1, 1, 0);
        y.wear(0, 5);
        due("of(0, 5)", x.of(0, 5), 0);
        due("many(2)", x.many(2), 30);
    }

    private static long roomSoFar() {
        java.lang.management.ThreadMXBean bean = ManagementFactory.getThreadMXBean();
        if (bean instanceof com.sun.management.ThreadMXBean sun && sun.isThreadAllocatedMemorySupported()) {
            return sun.getThreadAllocatedBytes(Thread.currentThread().getId());
        }
        return 0;
    }

    private static void roomIsSmall() {
        roomSoFar();
        long measuring = -roomSoFar() + roomSoFar();
        long start = roomSoFar();
        StampSheet x = fullTable();
        long made = roomSoFar();
        for (int round = 0; round < 30; round++) {
            tellRound(x, round);
            askAll(x, round % 9, round % 5, round % 7);
        }
        long asked = roomSoFar();
        check(made - start - measuring < ROOM_OF_A_TABLE, "a table takes " + (made - start - measuring) + " bytes");
        check(asked - made - measuring < ROOM_OF_CALLS, "calls take " + (asked - made - measuring) + " bytes");
    }

    private static void askAll(StampSheet x, int a, int b, int c) {
        x.of(a, b);
        x.told(a, b);
        x.quarrel();
        x.layings();
        x.laying(a, b);
        x.place(a);
        x.rivals(a);
        x.order(a, b);
        x.known(a, b);
        x.changes(a, b);
        x.breaks(a);
        x.inverted();
        x.span(a, b);
        x.unseen(c);
        x.many(c);
    }

    private static void tellAll(StampSheet x, int a, int b, int c) {
        x.mark(a, b, c);
        x.like(a, b);
        x.letter(a, b, c);
        x.wear(a, b);
        x.dated(a, b, c);
        x.out(a, (b & 1) == 1);
        x.bar(a, b);
        x.piece(a, b, c);
    }

    /** All that odd numbers can do, in a state that they change now and then. */
    private static void oddNumbers(StampSheet x) {
        x.keep();
        for (int a : ODD) {
            for (int b : ODD) {
                x.sheet(a, b);
                for (int c : ODD) {
                    tellAll(x, a, b, c);
                    x.many(c);
                }
                askAll(x, a, b, a);
                x.back();
                askAll(x, a, b, b);
                if ((a ^ b) % 5 == 0) {
                    x.free();
                    x.drop();
                }
            }
        }
    }

    public static void main(String[] args) {
        lastCallIsAnswered();
        nothingFillsUp();
        tablesAreApart();
        roomIsSmall();
        oddNumbers(new StampSheet());
        oddNumbers(fullTable());
        StampSheet withoutLaying = fullTable();
        withoutLaying.letter(0, 1, 3);
        oddNumbers(withoutLaying);
        System.out.println(wrong == 0 ? "the limit is kept" : wrong + " things are not as due");
        if (wrong != 0) {
            System.exit(1);
        }
    }
}
