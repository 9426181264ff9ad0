import java.util.function.ObjIntConsumer;

/** Calls with the numbers of boards, seats, traders and slots that do not exist: too small, too large, and far off. */
final class Missing {
    private static final String BARE = "market 0 0 0 99 0 0;";
    private static final String FIVE_BOARDS = BARE + "board 6 1 9;".repeat(5);

    /** A call that names a seat. */
    interface SeatCall {
        void on(SeesawMarket market, int board, int position);
    }

    private Missing() {
    }

    static void board(ObjIntConsumer<SeesawMarket> call) {
        for (int board : new int[] {-1, 2, Integer.MIN_VALUE, Integer.MAX_VALUE}) {
            Expect.noIndex("board " + board + " of two", Markets::rich, market -> call.accept(market, board));
        }
        Expect.noIndex("board 0 of none", () -> Markets.of(BARE), market -> call.accept(market, 0));
        Expect.noIndex("board 5 of five", () -> Markets.of(FIVE_BOARDS), market -> call.accept(market, 5));
    }

    static void seat(SeatCall call) {
        for (int position : new int[] {0, -3, 3, 7, Integer.MIN_VALUE, Integer.MAX_VALUE}) {
            Expect.noIndex("seat " + position + " of arm length 2", Markets::rich, market -> call.on(market, 1, position));
        }
        for (int position : new int[] {-4, 4}) {
            Expect.noIndex("seat " + position + " of arm length 3", Markets::rich, market -> call.on(market, 0, position));
        }
    }

    static void boardOrSeat(SeatCall call) {
        board((market, board) -> call.on(market, board, 1));
        seat(call);
    }

    static void trader(ObjIntConsumer<SeesawMarket> call) {
        for (int trader : new int[] {-1, 4, Integer.MIN_VALUE, Integer.MAX_VALUE}) {
            Expect.noIndex("trader " + trader + " of four", Markets::rich, market -> call.accept(market, trader));
        }
        Expect.noIndex("trader 0 of none", () -> Markets.of(BARE), market -> call.accept(market, 0));
        Expect.noIndex("trader 24 of 24", () -> Markets.of(Markets.withTraders(24)), market -> call.accept(market, 24));
    }

    static void slot(ObjIntConsumer<SeesawMarket> call) {
        for (int slot : new int[] {-1, 2, Integer.MIN_VALUE, Integer.MAX_VALUE}) {
            Expect.noIndex("slot " + slot, Markets::rich, market -> call.accept(market, slot));
        }
    }
}
