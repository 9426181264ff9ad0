/** The boundary cases that the promises 59 to 64 name: output, undo and slots. */
public final class UndoBoundaryTest {
    private static final String HEAD = "market 0 0 0 99 0 0;";

    public static void main(String[] args) {
        output();
        undo();
        slots();
        Sentences.introduction("An object is used for at most 512 calls after it has been made;",
                UndoBoundaryTest::anObjectOf512Calls);
        Expect.end();
    }

    private static void output() {
        Sentences.promise(59, "Writes a board to the output, which is replaced: for each seat from the smallest position to the "
                + "greatest one the name of its trader, or a dot (byte 46) if it is free.", UndoBoundaryTest::freeAndFullBoards);
        Sentences.promise(59, "A space (byte 32) separates two seats; between positions -1 and 1 there is a space, a caret (byte 94) "
                + "and a space.", UndoBoundaryTest::spacesAndTheCaret);
        Sentences.promise(59, "Returns the number of bytes of the output.", UndoBoundaryTest::shortestAndLongestOutput);
        Sentences.promise(59, "Throws `IndexOutOfBoundsException` if there is no such board",
                () -> Missing.board(SeesawMarket::writeBoard));
        Sentences.promise(60, "`index`: the index of the byte, from 0", UndoBoundaryTest::firstAndLastBytes);
        Sentences.promise(60, "Returns the byte; NONE if the output has no byte with this index.",
                UndoBoundaryTest::bytesThatAreNotThere);
    }

    private static void undo() {
        Sentences.promise(61, "Returns 0 to 8.", UndoBoundaryTest::undoCounts);
        Sentences.promise(62, "The text buffer, the error code and position, the output and the slots stay as they are.",
                UndoBoundaryTest::whatUndoLeaves);
        Sentences.promise(62, "Returns the number of changes that can still be undone.", UndoBoundaryTest::changesThatAreLeft);
        Sentences.promise(62, "Throws `IllegalStateException` if no change can be undone", UndoBoundaryTest::nothingToUndo);
    }

    private static void slots() {
        Sentences.promise(63, "Saves everything that undo restores in a slot. It replaces what the slot contained.",
                UndoBoundaryTest::aFullSlotIsReplaced);
        Sentences.promise(63, "`slot`: 0 or 1", UndoBoundaryTest::bothSlots);
        Sentences.promise(63, "Throws `IndexOutOfBoundsException` if there is no such slot", () -> Missing.slot(SeesawMarket::save));
        Sentences.promise(64, "The slot keeps it. Afterwards no change can be undone.", UndoBoundaryTest::restoreForgetsChanges);
        Sentences.promise(64, "`slot`: 0 or 1", UndoBoundaryTest::bothSlots);
        Sentences.promise(64, "Throws `IndexOutOfBoundsException` if there is no such slot",
                () -> Missing.slot(SeesawMarket::restore));
        Sentences.promise(64, "Throws `IllegalStateException` if the slot is empty", UndoBoundaryTest::emptySlots);
    }

    /** Twelve traders with names of six letters on a board of twelve seats. */
    private static SeesawMarket fullBoard() {
        StringBuilder setup = new StringBuilder(HEAD + "board 1 1 1; board 6 99 999;");
        for (int trader = 0; trader < 12; trader++) {
            setup.append("trader abcde").append((char) ('a' + trader)).append(" 1 1 1;");
        }
        for (int trader = 0; trader < 12; trader++) {
            setup.append("seat abcde").append((char) ('a' + trader)).append(" 1 ");
            setup.append(trader < 6 ? "left " + (6 - trader) : "right " + (trader - 5)).append(';');
        }
        return Markets.of(setup.toString());
    }

    private static void freeAndFullBoards() {
        SeesawMarket market = fullBoard();
        String full = "abcdea abcdeb abcdec abcded abcdee abcdef ^ abcdeg abcdeh abcdei abcdej abcdek abcdel";
        Expect.same("a full board", Markets.board(market, 1), full);
        Expect.same("an empty board", Markets.board(market, 0), ". ^ .");
        Expect.same("a full board again", Markets.board(market, 1), full);
        Expect.same("an empty board of twelve seats", Markets.board(Markets.of(HEAD + "board 6 1 1;"), 0),
                ". . . . . . ^ . . . . . .");
    }

    private static void spacesAndTheCaret() {
        SeesawMarket market = fullBoard();
        market.writeBoard(0);
        int[] due = {46, 32, 94, 32, 46, SeesawMarket.NONE};
        for (int index = 0; index < due.length; index++) {
            Expect.same("byte " + index, market.outputByte(index), due[index]);
        }
    }

    private static void shortestAndLongestOutput() {
        Expect.same("two free seats", fullBoard().writeBoard(0), 5);
        Expect.same("twelve long names", fullBoard().writeBoard(1), 12 * 6 + 13);
        Expect.same("twelve free seats", Markets.of(HEAD + "board 6 1 1;").writeBoard(0), 12 + 13);
    }

    private static void firstAndLastBytes() {
        SeesawMarket market = fullBoard();
        market.writeBoard(1);
        Expect.same("the first byte", market.outputByte(0), 'a');
        Expect.same("the last byte", market.outputByte(84), 'l');
    }

    private static void bytesThatAreNotThere() {
        Expect.same("before anything is written", Markets.first().outputByte(0), SeesawMarket.NONE);
        SeesawMarket market = fullBoard();
        market.writeBoard(1);
        for (int index : new int[] {-1, 85, 799, 800, Integer.MIN_VALUE, Integer.MAX_VALUE}) {
            Expect.same("byte " + index, market.outputByte(index), SeesawMarket.NONE);
        }
        market.writeBoard(0);
        Expect.same("behind a shorter output", market.outputByte(5), SeesawMarket.NONE);
    }

    private static void undoCounts() {
        SeesawMarket market = Markets.first();
        Expect.same("at first", market.undoCount(), 0);
        for (int change = 1; change <= 12; change++) {
            market.setWage(change);
            Expect.same("after change " + change, market.undoCount(), Math.min(8, change));
        }
        market.save(0);
        market.restore(0);
        Expect.same("after a restore", market.undoCount(), 0);
    }

    private static void whatUndoLeaves() {
        SeesawMarket market = Markets.rich();
        market.setWage(9);
        market.save(1);
        Markets.run(market, "wage 21;");
        market.writeBoard(1);
        Markets.write(market, "fay");
        market.undo();
        Expect.same("text buffer", Markets.bufferLength(market), 3);
        Expect.same("error code", market.errorCode(), SeesawMarket.OUT_OF_RANGE);
        Expect.same("error position", market.errorPosition(), 5);
        Expect.same("output", Markets.output(market), ". . ^ cat .");
        Expect.same("the bytes of the text", market.join(1, 1), 4);
        Expect.same("name", Markets.name(market, 4), "fay");
        market.undo();
        Expect.same("the name does not come back", Markets.bufferLength(market), 0);
        market.restore(1);
        Expect.same("slot 1", market.wage(), 9);
        market.restore(0);
        Expect.same("slot 0", Markets.state(market), Markets.state(Markets.first()));
        SeesawMarket script = Markets.first();
        Markets.run(script, "wage 1;");
        script.undo();
        Expect.same("the text of a script does not come back", Markets.bufferLength(script), 0);
    }

    private static void changesThatAreLeft() {
        SeesawMarket market = Markets.first();
        for (int change = 1; change <= 10; change++) {
            market.setWage(change);
        }
        for (int left = 7; left >= 0; left--) {
            Expect.same("undo with " + left + " left", market.undo(), left);
            Expect.same("count", market.undoCount(), left);
        }
        Expect.same("two changes are forgotten", market.wage(), 2);
    }

    private static void nothingToUndo() {
        Expect.noState("a new object", Markets::first, market -> market.undo());
        Expect.noState("a new market", () -> {
            SeesawMarket market = Markets.rich();
            Markets.load(market, HEAD);
            return market;
        }, market -> market.undo());
        Expect.noState("all is undone", () -> {
            SeesawMarket market = Markets.rich();
            while (market.undoCount() > 0) {
                market.undo();
            }
            return market;
        }, market -> market.undo());
        Expect.noState("a restored market", () -> {
            SeesawMarket market = Markets.rich();
            market.restore(0);
            return market;
        }, market -> market.undo());
        Expect.noState("a refused change", () -> {
            SeesawMarket market = Markets.first();
            Markets.run(market, "wage 21;");
            return market;
        }, market -> market.undo());
    }

    private static void aFullSlotIsReplaced() {
        SeesawMarket market = Markets.first();
        Expect.same("the day of an empty slot's save", market.save(0), 0);
        market.advance(2);
        Expect.same("the day of a full slot's save", market.save(0), 2);
        market.advance(2);
        Expect.same("the later one is kept", market.restore(0), 2);
        SeesawMarket used = Markets.rich();
        String saved = Markets.state(used);
        used.save(0);
        used.advance(30);
        Markets.join(used, "fay", 1, 1);
        used.restore(0);
        Expect.same("everything comes back", Markets.state(used), saved);
        Expect.same("the weight price, too", used.weightUnitPrice(0, 0), Markets.first().weightUnitPrice(0, 0));
    }

    private static void bothSlots() {
        SeesawMarket market = Markets.first();
        Expect.same("slot 0", market.save(0), 0);
        market.advance(1);
        Expect.same("slot 1", market.save(1), 1);
        market.advance(1);
        Expect.same("of slot 0", market.restore(0), 0);
        Expect.same("day of slot 0", market.day(), 0);
        Expect.same("of slot 1", market.restore(1), 1);
        Expect.same("day of slot 1", market.day(), 1);
    }

    private static void restoreForgetsChanges() {
        SeesawMarket market = Markets.rich();
        Expect.same("changes before", market.undoCount() > 0, true);
        market.restore(0);
        Expect.same("no change", market.undoCount(), 0);
        String restored = Markets.state(market);
        market.advance(30);
        Expect.same("a change after it", market.undoCount(), 1);
        market.restore(0);
        Expect.same("the slot keeps it", Markets.state(market), restored);
        market.setWage(20);
        market.undo();
        Expect.same("the undo of a later change", Markets.state(market), restored);
    }

    private static void emptySlots() {
        for (int slot = 0; slot < 2; slot++) {
            int empty = slot;
            Expect.noState("a new object's slot " + slot, Markets::first, market -> market.restore(empty));
            Expect.noState("slot " + slot + " when the other is full", () -> {
                SeesawMarket market = Markets.first();
                market.setWage(9);
                market.save(1 - empty);
                return market;
            }, market -> market.restore(empty));
            Expect.noState("slot " + slot + " after a load", () -> {
                SeesawMarket market = Markets.rich();
                Markets.load(market, HEAD);
                return market;
            }, market -> market.restore(empty));
        }
        SeesawMarket market = Markets.rich();
        Markets.load(market, "market");
        Expect.same("a full slot after a load with an error", market.restore(1), 0);
    }

    private static void anObjectOf512Calls() {
        SeesawMarket market = Markets.first();
        for (int call = 1; call <= 510; call++) {
            market.setWage(call % 21);
        }
        Expect.same("call 511", market.undo(), 7);
        Expect.same("call 512", market.wage(), 509 % 21);
        SeesawMarket days = Markets.first();
        for (int call = 1; call <= 333; call++) {
            days.advance(30);
        }
        for (int call = 334; call <= 511; call++) {
            days.bankAfter(100);
        }
        Expect.same("call 512 after many days", days.bankAfter(100), 307);
    }
}
