/** Promises 59 to 64: output, undo and slots. */
public final class UndoTest {
    public static void main(String[] args) {
        promise59WriteBoard();
        promise59WritesTheLongestBoard();
        promise59Refuses();
        promise60OutputByte();
        promises61And62UndoEachChange();
        promises61And62UndoEightChanges();
        promise62UndoTakesBackEventsAndStatistics();
        promise62UndoLeavesTexts();
        promise62UndoRefuses();
        promises63And64SaveAndRestore();
        promise63SaveReplaces();
        promise64RestoreForgetsChanges();
        promise64RestoreLeavesTexts();
        promises63And64Refuse();
        Expect.end();
    }

    private static void promise59WriteBoard() {
        SeesawMarket market = Markets.first();
        Expect.same("bytes of board 0", market.writeBoard(0), 17);
        Expect.same("board 0", Markets.output(market), ". ann . ^ . . bob");
        Expect.same("bytes of board 1", market.writeBoard(1), 11);
        Expect.same("board 1", Markets.output(market), ". . ^ cat .");
        Expect.same("no change", market.undoCount(), 0);
        market.leaveSeat(Markets.CAT);
        Expect.same("the output is not written anew", Markets.output(market), ". . ^ cat .");
        Expect.same("board 1 without cat", Markets.board(market, 1), ". . ^ . .");
        Expect.same("a short board", Markets.board(Markets.of("market 0 0 0 9 0 0; board 1 1 1;"), 0), ". ^ .");
    }

    private static void promise59WritesTheLongestBoard() {
        StringBuilder setup = new StringBuilder("market 0 0 0 9 0 0; board 6 1 999;");
        for (int trader = 0; trader < 12; trader++) {
            setup.append("trader abcde").append((char) ('a' + trader)).append(" 1 1 1;");
        }
        for (int trader = 0; trader < 12; trader++) {
            setup.append("seat abcde").append((char) ('a' + trader)).append(" 0 ");
            setup.append(trader < 6 ? "left " + (6 - trader) : "right " + (trader - 5)).append(';');
        }
        SeesawMarket market = Markets.of(setup.toString());
        Expect.same("bytes", market.writeBoard(0), 12 * 6 + 13);
        Expect.same("board", Markets.output(market), "abcdea abcdeb abcdec abcded abcdee abcdef ^"
                + " abcdeg abcdeh abcdei abcdej abcdek abcdel");
    }

    private static void promise59Refuses() {
        for (int board : new int[] {-1, 2, Integer.MIN_VALUE, Integer.MAX_VALUE}) {
            Expect.noIndex("write of " + board, () -> {
                SeesawMarket market = Markets.first();
                market.writeBoard(1);
                return market;
            }, market -> market.writeBoard(board));
        }
    }

    private static void promise60OutputByte() {
        SeesawMarket market = Markets.first();
        Expect.same("nothing is written", market.outputByte(0), SeesawMarket.NONE);
        market.writeBoard(0);
        Expect.same("byte 0", market.outputByte(0), 46);
        Expect.same("byte 1", market.outputByte(1), 32);
        Expect.same("byte 8", market.outputByte(8), 94);
        Expect.same("the last byte", market.outputByte(16), 'b');
        Expect.same("behind it", market.outputByte(17), SeesawMarket.NONE);
        Expect.same("ahead", market.outputByte(-1), SeesawMarket.NONE);
        Expect.same("far ahead", market.outputByte(Integer.MIN_VALUE), SeesawMarket.NONE);
        Expect.same("far behind", market.outputByte(Integer.MAX_VALUE), SeesawMarket.NONE);
        market.writeBoard(1);
        Expect.same("the longer output is gone", market.outputByte(11), SeesawMarket.NONE);
    }

    private static void promises61And62UndoEachChange() {
        SeesawMarket market = Markets.first();
        Runnable[] changes = {
            () -> Markets.join(market, "eve", 5, 60), () -> market.buySeat(4, 0, 1), () -> market.sellWeight(4, 0, 1),
            () -> market.swapSeats(4, 1), () -> market.setWage(9), () -> market.advance(3), () -> market.leaveSeat(1),
            () -> Markets.run(market, "days 1; wage 2; join fay 7 8;"),
        };
        String[] before = new String[changes.length];
        for (int index = 0; index < changes.length; index++) {
            Expect.same("count ahead of change " + index, market.undoCount(), index);
            before[index] = Markets.state(market);
            changes[index].run();
            Expect.same("change " + index + " changes", Markets.state(market).equals(before[index]), false);
        }
        for (int index = changes.length - 1; index >= 0; index--) {
            Expect.same("count behind change " + index, market.undoCount(), index + 1);
            Expect.same("undo of change " + index, market.undo(), index);
            Expect.same("state ahead of change " + index, Markets.state(market), before[index]);
        }
    }

    private static void promises61And62UndoEightChanges() {
        SeesawMarket market = Markets.first();
        for (int wage = 4; wage <= 20; wage++) {
            market.setWage(wage);
            Expect.same("count", market.undoCount(), Math.min(8, wage - 3));
        }
        for (int left = 7; left >= 0; left--) {
            Expect.same("undo", market.undo(), left);
            Expect.same("wage", market.wage(), 12 + left);
        }
        market.setWage(1);
        market.setWage(2);
        Expect.same("undo of a later change", market.undo(), 1);
        Expect.same("wage", market.wage(), 1);
        Expect.same("undo of the other", market.undo(), 0);
        Expect.same("wage", market.wage(), 12);
    }

    private static void promise62UndoTakesBackEventsAndStatistics() {
        SeesawMarket market = Markets.of("market 0 0 0 5 0 0; board 2 9 9; trader a 5 9 5; trader b 3 9 0; trader c 5 9 4;"
                + "seat a 0 left 1; seat b 0 right 1; seat c 0 right 2;");
        market.advance(1);
        Expect.same("events of day 1", Markets.events(market), "fall 2 on 1; retirement 0 on 1;");
        Markets.runAll(market, "buy c 0 left 1; sell b c 2;");
        String before = Markets.state(market);
        Markets.runAll(market, "days 1; buy b 0 right 2; leave b; days 9;");
        Expect.same("later events", Markets.events(market),
                "retirement 1 on 6; retirement 2 on 2; fall 2 on 1; retirement 0 on 1;");
        market.undo();
        Expect.same("events again", Markets.events(market), "fall 2 on 1; retirement 0 on 1;");
        Expect.same("state again", Markets.state(market), before);
        market.save(0);
        market.undo();
        Expect.same("seats sold", market.seatsSold(), 0);
        Expect.same("weight sold", market.weightSold(), 0);
        market.undo();
        Expect.same("falls", market.fallCount(), 0);
        Expect.same("no events", Markets.events(market), "");
        market.restore(0);
        Expect.same("restored", Markets.state(market), before);
    }

    private static void promise62UndoLeavesTexts() {
        SeesawMarket market = Markets.first();
        market.setWage(8);
        Markets.run(market, "wage 22;");
        market.writeBoard(0);
        Markets.write(market, "eve");
        market.save(0);
        Expect.same("undo", market.undo(), 0);
        Expect.same("error code", market.errorCode(), SeesawMarket.OUT_OF_RANGE);
        Expect.same("error position", market.errorPosition(), 5);
        Expect.same("output", Markets.output(market), ". ann . ^ . . bob");
        Expect.same("buffer", market.join(1, 1), 4);
        market.undo();
        Expect.same("the buffer stays empty", Markets.bufferLength(market), 0);
        market.restore(0);
        Expect.same("slot", market.wage(), 8);
    }

    private static void promise62UndoRefuses() {
        Expect.noState("no change yet", Markets::first, market -> market.undo());
        Expect.noState("a script with an error", () -> {
            SeesawMarket market = Markets.first();
            Markets.run(market, "wage 1; wage");
            return market;
        }, market -> market.undo());
        Expect.noState("the last change is undone", () -> {
            SeesawMarket market = Markets.first();
            market.setWage(1);
            market.undo();
            return market;
        }, market -> market.undo());
    }

    private static void promises63And64SaveAndRestore() {
        SeesawMarket market = Markets.first();
        Markets.runAll(market, "buy dan 0 right 1; sell dan ann 2; days 4;");
        String saved = Markets.state(market);
        Expect.same("save", market.save(1), 4);
        Expect.same("save is no change", market.undoCount(), 1);
        Markets.runAll(market, "join eve 5 5; days 30; days 30;");
        Expect.same("save", market.save(0), 64);
        String later = Markets.state(market);
        Expect.same("restore", market.restore(1), 4);
        Expect.same("state", Markets.state(market), saved);
        market.advance(1);
        Expect.same("the slot keeps it", market.restore(1), 4);
        Expect.same("state", Markets.state(market), saved);
        Expect.same("the other slot", market.restore(0), 64);
        Expect.same("state", Markets.state(market), later);
    }

    private static void promise63SaveReplaces() {
        SeesawMarket market = Markets.first();
        market.save(0);
        market.advance(2);
        Expect.same("save", market.save(0), 2);
        market.advance(2);
        Expect.same("restore", market.restore(0), 2);
    }

    private static void promise64RestoreForgetsChanges() {
        SeesawMarket market = Markets.first();
        market.save(0);
        market.setWage(7);
        market.setWage(8);
        Expect.same("changes", market.undoCount(), 2);
        market.restore(0);
        Expect.same("no changes", market.undoCount(), 0);
        market.setWage(9);
        Expect.same("a later change", market.undo(), 0);
        Expect.same("wage", market.wage(), 3);
    }

    private static void promise64RestoreLeavesTexts() {
        SeesawMarket market = Markets.first();
        market.save(0);
        Markets.run(market, "wage 22;");
        market.writeBoard(1);
        Markets.write(market, "eve");
        market.restore(0);
        Expect.same("error code", market.errorCode(), SeesawMarket.OUT_OF_RANGE);
        Expect.same("error position", market.errorPosition(), 5);
        Expect.same("output", Markets.output(market), ". . ^ cat .");
        Expect.same("buffer", Markets.bufferLength(market), 3);
    }

    private static SeesawMarket withChanges() {
        SeesawMarket market = Markets.first();
        market.setWage(7);
        return market;
    }

    private static void promises63And64Refuse() {
        for (int slot : new int[] {-1, 2, Integer.MIN_VALUE, Integer.MAX_VALUE}) {
            Expect.noIndex("save " + slot, UndoTest::withChanges, market -> market.save(slot));
            Expect.noIndex("restore " + slot, UndoTest::withChanges, market -> market.restore(slot));
        }
        Expect.noState("restore of an empty slot", UndoTest::withChanges, market -> market.restore(0));
        Expect.noState("restore of the other slot", () -> {
            SeesawMarket market = withChanges();
            market.save(0);
            return market;
        }, market -> market.restore(1));
    }
}
