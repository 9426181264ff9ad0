/** The boundary cases that the promises 1 to 7 and 24 name: a new object, the text buffer, setups and scripts. */
public final class TextBoundaryTest {
    private static final String HEAD = "market 0 0 0 99 0 0;";

    public static void main(String[] args) {
        newObject();
        append();
        truncate();
        load();
        runScript();
        errors();
        findTrader();
        Expect.end();
    }

    private static void newObject() {
        Sentences.promise(1, "with an empty text buffer, an empty output and empty slots.", TextBoundaryTest::aNewObjectIsEmpty);
    }

    private static void append() {
        Sentences.promise(2, "Appends the four bytes of each parameter, the most significant byte first, to the text buffer.",
                TextBoundaryTest::theLeastAndTheGreatestBytes);
        Sentences.promise(2, "Bytes that are 0 are left out.", TextBoundaryTest::zerosAreLeftOut);
        Sentences.promise(2, "Returns the number of bytes in the buffer.", TextBoundaryTest::appendCountsTheBytes);
        Sentences.promise(2, "Throws `IllegalStateException` if the buffer would hold more than 800 bytes",
                TextBoundaryTest::appendRefusesByte801);
    }

    private static void truncate() {
        Sentences.promise(3, "`length`: the new length, from 0 to the present length", TextBoundaryTest::truncateToEachLength);
        Sentences.promise(3, "Throws `IllegalArgumentException` if length is out of range",
                TextBoundaryTest::truncateRefusesOtherLengths);
    }

    private static void load() {
        Sentences.promise(4, "Parses the text buffer as a setup and empties the buffer.", TextBoundaryTest::loadEmptiesTheBuffer);
        Sentences.promise(4, "Without an error a new market begins: the day is 0, all statistics are 0, there are no events, "
                + "nothing can be undone, and both slots are empty.", TextBoundaryTest::loadLeavesNothing);
        Sentences.promise(4, "With an error the market stays as it is.", TextBoundaryTest::loadWithAnErrorLeavesAll);
        Sentences.promise(4, "Returns 0, or the error code.", TextBoundaryTest::loadReturnsEachCode);
    }

    private static void runScript() {
        Sentences.promise(5, "Parses the text buffer as a script, empties the buffer, and executes the script if it has no error.",
                TextBoundaryTest::scriptEmptiesTheBuffer);
        Sentences.promise(5, "The execution ends before the first command whose method would throw an exception or whose name does "
                + "not belong to a trader, and after 40 commands; \"repeat\" itself is not counted.",
                TextBoundaryTest::whereScriptsEnd);
        Sentences.promise(5, "Commands that were executed before stay in effect.", TextBoundaryTest::commandsStayInEffect);
        Sentences.promise(5, "Returns the number of executed commands, or NONE if the text has an error; then the call is not a "
                + "change.", TextBoundaryTest::scriptsThatAreChanges);
    }

    private static void errors() {
        Sentences.promise(6, "Returns the error code; 0 if there was no error or no such call.", TextBoundaryTest::theErrorCode);
        Sentences.promise(7, "Returns the position; NONE if there was no error or no such call.",
                TextBoundaryTest::theErrorPosition);
    }

    private static void findTrader() {
        Sentences.promise(24, "Finds the trader whose name equals the whole text buffer.", TextBoundaryTest::theWholeBuffer);
        Sentences.promise(24, "The buffer stays as it is.", TextBoundaryTest::theBufferStays);
        Sentences.promise(24, "Returns the trader; NONE if there is none.", TextBoundaryTest::nobodyIsFound);
    }

    private static void aNewObjectIsEmpty() {
        Expect.same("buffer", Markets.bufferLength(Markets.first()), 0);
        Expect.same("the buffer as a setup", Markets.first().load(), SeesawMarket.SYNTAX);
        Expect.same("the buffer as a script", Markets.first().runScript(), 0);
        Expect.same("the buffer as a name", Markets.first().findTrader(), SeesawMarket.NONE);
        Expect.same("output", Markets.first().outputByte(0), SeesawMarket.NONE);
        Expect.same("slots", Markets.past(Markets.first()), "slot 0 empty\nslot 1 empty\n");
        Expect.noState("restore of slot 0", Markets::first, market -> market.restore(0));
        Expect.noState("restore of slot 1", Markets::first, market -> market.restore(1));
        SeesawMarket used = Markets.rich();
        used.advance(1);
        Expect.same("another object is new all the same", Markets.picture(Markets.first()),
                Markets.picture(Markets.of(Markets.FIRST_SETUP)));
    }

    private static void theLeastAndTheGreatestBytes() {
        SeesawMarket market = Markets.first();
        Expect.same("a byte of 1", market.append(1, 0, 0, 0, 0), 1);
        Expect.same("a byte of 255 on each place", market.append(255, 255 << 8, 255 << 16, 255 << 24, 0), 5);
        Expect.same("the least int", market.append(Integer.MIN_VALUE, 0, 0, 0, 0), 6);
        Expect.same("the greatest int", market.append(Integer.MAX_VALUE, 0, 0, 0, 0), 10);
        Expect.same("-1 everywhere", market.append(-1, -1, -1, -1, -1), 30);
        market.truncate(0);
        market.append(0x61626364, 0, 0, 0, 0x65660000);
        Expect.same("letters in their order", market.join(1, 1), 4);
        Expect.same("name", Markets.name(market, 4), "abcdef");
    }

    private static void zerosAreLeftOut() {
        SeesawMarket market = Markets.first();
        Expect.same("zeros alone", market.append(0, 0, 0, 0, 0), 0);
        Expect.same("a zero on each place", market.append(0x00616263, 0x64006566, 0x61620063, 0x64656600, 0), 12);
        market.truncate(6);
        Expect.same("the letters between", market.join(1, 1), 4);
        Expect.same("name", Markets.name(market, 4), "abcdef");
    }

    private static SeesawMarket withBytes(int count) {
        SeesawMarket market = Markets.first();
        Markets.add(market, "bob" + " ".repeat(count - 3));
        return market;
    }

    private static void appendCountsTheBytes() {
        SeesawMarket market = Markets.first();
        Expect.same("none", market.append(0, 0, 0, 0, 0), 0);
        Expect.same("one", market.append(0, 0, 0x61, 0, 0), 1);
        Expect.same("twenty more", market.append(-1, -1, -1, -1, -1), 21);
        Expect.same("all", withBytes(780).append(-1, -1, -1, -1, -1), 800);
    }

    private static void appendRefusesByte801() {
        Expect.same("byte 800", withBytes(799).append(0, 0, 0, 0, 0x61), 800);
        Expect.same("no byte behind 800", withBytes(800).append(0, 0, 0, 0, 0), 800);
        Expect.noState("byte 801", () -> withBytes(800), market -> market.append(0, 0, 0, 0, 0x61));
        Expect.noState("byte 801 on the first place", () -> withBytes(800), market -> market.append(0x61000000, 0, 0, 0, 0));
        Expect.noState("the second byte of two", () -> withBytes(799), market -> market.append(0x61, 0, 0, 0, 0x61));
        Expect.noState("20 bytes to 781", () -> withBytes(781), market -> market.append(-1, -1, -1, -1, -1));
        SeesawMarket market = withBytes(799);
        try {
            market.append(0x78787878, 0, 0, 0, 0);
        } catch (IllegalStateException exception) {
            market.truncate(3);
        }
        Expect.same("the bytes of before", market.findTrader(), Markets.BOB);
    }

    private static void truncateToEachLength() {
        SeesawMarket market = withBytes(800);
        Expect.same("to the present length", market.truncate(800), 800);
        Expect.same("to one less", market.truncate(799), 799);
        Expect.same("the first bytes", market.truncate(3), 3);
        Expect.same("are kept", market.findTrader(), Markets.BOB);
        Expect.same("to 1", market.truncate(1), 1);
        Expect.same("to 0", market.truncate(0), 0);
        Expect.same("of 0", market.truncate(0), 0);
        Expect.same("nothing is left", Markets.bufferLength(market), 0);
        market.append(0x616e6e, 0, 0, 0, 0);
        Expect.same("a text behind it", market.findTrader(), Markets.ANN);
    }

    private static void truncateRefusesOtherLengths() {
        Expect.noArgument("to -1", Markets::rich, market -> market.truncate(-1));
        Expect.noArgument("to one more", Markets::rich, market -> market.truncate(4));
        Expect.noArgument("to 801 of 800", () -> withBytes(800), market -> market.truncate(801));
        Expect.noArgument("to 1 of an empty buffer", Markets::first, market -> market.truncate(1));
        Expect.noArgument("to the least int", Markets::rich, market -> market.truncate(Integer.MIN_VALUE));
        Expect.noArgument("to the greatest int", Markets::rich, market -> market.truncate(Integer.MAX_VALUE));
    }

    private static void loadEmptiesTheBuffer() {
        SeesawMarket market = Markets.first();
        for (String text : new String[] {"", HEAD, "market", "market 99", HEAD + " ".repeat(800 - HEAD.length()), "?".repeat(800)}) {
            Markets.load(market, text);
            Expect.same("length after a setup of " + text.length(), Markets.bufferLength(market), 0);
        }
    }

    private static SeesawMarket used() {
        SeesawMarket market = Markets.first();
        Markets.runAll(market, "buy dan 0 left 3; sell dan ann 1; leave bob; days 30;");
        market.advance(30);
        market.save(0);
        market.save(1);
        Expect.same("seats were sold", market.seatsSold() > 0, true);
        Expect.same("weight was sold", market.weightSold() > 0, true);
        Expect.same("traders fell", market.fallCount() > 0, true);
        Expect.same("there are events", market.eventKind(0) != SeesawMarket.NONE, true);
        return market;
    }

    private static SeesawMarket usedAndLoaded(String setup) {
        SeesawMarket market = used();
        Expect.same("load", Markets.load(market, setup), 0);
        return market;
    }

    private static void loadLeavesNothing() {
        SeesawMarket market = usedAndLoaded(HEAD);
        Expect.same("day", market.day(), 0);
        Expect.same("seats sold", market.seatsSold(), 0);
        Expect.same("weight sold", market.weightSold(), 0);
        Expect.same("falls", market.fallCount(), 0);
        Expect.same("events", market.eventKind(0), SeesawMarket.NONE);
        Expect.same("changes", market.undoCount(), 0);
        Expect.same("no board", market.boardCount(), 0);
        Expect.same("no trader", market.traderCount(), 0);
        Expect.noState("undo", () -> usedAndLoaded(HEAD), loaded -> loaded.undo());
        Expect.noState("slot 0", () -> usedAndLoaded(HEAD), loaded -> loaded.restore(0));
        Expect.noState("slot 1", () -> usedAndLoaded(HEAD), loaded -> loaded.restore(1));
        Expect.same("the first setup again", Markets.state(usedAndLoaded(Markets.FIRST_SETUP)), Markets.state(Markets.first()));
        SeesawMarket first = Markets.first();
        SeesawMarket behindFull = Markets.of(Markets.full());
        Markets.load(behindFull, Markets.FIRST_SETUP);
        Expect.same("the first setup behind a full one", Markets.state(behindFull), Markets.state(first));
        Expect.sameDouble("average purse", behindFull.averagePurse(), first.averagePurse());
        Expect.sameFloat("occupancy", behindFull.occupancy(), first.occupancy());
        Expect.same("torque", behindFull.torque(0), first.torque(0));
        Expect.same("place behind the last one", behindFull.richestAt(4), SeesawMarket.NONE);
        Expect.same("bank after 100 days", behindFull.bankAfter(100), first.bankAfter(100));
        behindFull.advance(1);
        first.advance(1);
        Expect.same("a day later", Markets.state(behindFull), Markets.state(first));
    }

    private static void loadWithAnErrorLeavesAll() {
        for (String setup : new String[] {"", "market", HEAD + "board 7 1 1;", HEAD + "trader x 1 1 1; seat x 0 left 1;"}) {
            SeesawMarket market = used();
            Expect.same("load", Markets.load(market, setup) > 0, true);
            Expect.same("state", Markets.state(market), Markets.state(used()));
            Expect.same("changes", market.undoCount(), 2);
            Expect.same("undo and slots", Markets.past(market), Markets.past(used()));
        }
    }

    private static void loadReturnsEachCode() {
        Expect.same("no error", Markets.load(Markets.first(), HEAD), 0);
        Expect.same("syntax", Markets.load(Markets.first(), ""), 1);
        Expect.same("out of range", Markets.load(Markets.first(), "market 21"), 2);
        Expect.same("already used", Markets.load(Markets.first(), HEAD + "trader a 1 1 1; trader a"), 3);
        Expect.same("unknown name", Markets.load(Markets.first(), HEAD + "seat a"), 4);
        Expect.same("too many", Markets.load(Markets.first(), HEAD + "board 1 1 1;".repeat(6)), 5);
    }

    private static void scriptEmptiesTheBuffer() {
        String[] texts = {"", "wage 1;", "wage", "wage 21;", "wage 1;" + " ".repeat(793), "?".repeat(800), "leave dan;"};
        for (String text : texts) {
            SeesawMarket market = Markets.first();
            Markets.run(market, text);
            Expect.same("length after a script of " + text.length(), Markets.bufferLength(market), 0);
        }
        SeesawMarket market = Markets.first();
        Markets.run(market, "wage 1; days 1; wage 21;");
        Expect.same("nothing is executed", Markets.state(market), Markets.state(Markets.first()));
    }

    private static void endsBefore(String command) {
        SeesawMarket market = Markets.first();
        Expect.same("commands ahead of " + command, Markets.run(market, "wage 1; days 3; " + command + "; wage 2;"), 2);
        Expect.same("no error at " + command, market.errorCode(), 0);
        Expect.same("wage ahead of " + command, market.wage(), 1);
        Expect.same("one change", market.undo(), 0);
        Expect.same("the undo of what came ahead of " + command, Markets.state(market), Markets.state(Markets.first()));
    }

    private static void whereScriptsEnd() {
        // After three days cat has retired.
        String[] commands = {"join cat 1 1", "join ann 1 1", "buy eve 0 left 1", "buy cat 0 left 1", "buy dan 4 left 1",
            "buy dan 1 right 3", "buy dan 0 left 2", "buy ann 0 left 2", "leave eve", "leave dan", "leave cat", "sell eve ann 1",
            "sell ann eve 1", "sell ann dan 1", "sell cat ann 1", "sell bob ann 6", "sell bob ann 50", "swap eve ann",
            "swap ann eve", "swap ann dan", "swap cat ann"};
        for (String command : commands) {
            endsBefore(command);
        }
        Expect.same("39 commands", Markets.run(Markets.first(), "repeat 13(repeat 3(days 1;););"), 39);
        Expect.same("40 commands", Markets.run(Markets.first(), "repeat 20(repeat 2(days 1;););"), 40);
        SeesawMarket market = Markets.first();
        Expect.same("40 of 41 commands", Markets.run(market, "repeat 20(repeat 2(days 1;);); wage 9;"), 40);
        Expect.same("day", market.day(), 40);
        Expect.same("wage", market.wage(), 3);
        Expect.same("40 of 800", Markets.run(Markets.first(), "repeat 20(repeat 20(days 1; wage 1;););"), 40);
        Expect.same("the end of the days", Markets.run(Markets.onDay(HEAD, 9999), "wage 1; days 1; wage 2;"), 1);
    }

    private static void commandsStayInEffect() {
        SeesawMarket market = Markets.first();
        Expect.same("commands", Markets.run(market, "wage 9; buy dan 0 right 1; days 1; leave eve; wage 10;"), 3);
        Expect.same("wage", market.wage(), 9);
        Expect.same("seat", market.seatOwner(0, 1), Markets.DAN);
        Expect.same("day", market.day(), 1);
        Expect.same("one change", market.undo(), 0);
        Expect.same("undo", Markets.state(market), Markets.state(Markets.first()));
    }

    private static void scriptsThatAreChanges() {
        String[][] countsOfScripts = {{"", "0"}, {"repeat 20(repeat 20(););", "0"}, {"leave dan;", "0"}, {"wage 1;", "1"},
            {"wage 1; leave dan;", "1"}, {"wage 1;".repeat(30), "30"}};
        for (String[] row : countsOfScripts) {
            SeesawMarket market = Markets.first();
            Expect.same("commands of " + row[0], Markets.run(market, row[0]), Integer.parseInt(row[1]));
            Expect.same("changes after " + row[0], market.undoCount(), 1);
        }
        for (String script : new String[] {"wage", "wage 21;", "swap ann ann;", "wage 1;".repeat(31)}) {
            SeesawMarket market = Markets.rich();
            Expect.same("script " + script, Markets.run(market, script), SeesawMarket.NONE);
            Expect.same("changes after " + script, market.undoCount(), Markets.rich().undoCount());
            Expect.same("what can be undone after " + script, Markets.past(market), Markets.past(Markets.rich()));
        }
    }

    private static void theErrorCode() {
        SeesawMarket market = Markets.first();
        Expect.same("no such call", market.errorCode(), 0);
        Markets.run(market, "wage 1;");
        Expect.same("a right script", market.errorCode(), 0);
        Markets.load(market, "market 21");
        Expect.same("a wrong setup", market.errorCode(), SeesawMarket.OUT_OF_RANGE);
        Markets.run(market, "?");
        Expect.same("a wrong script", market.errorCode(), SeesawMarket.SYNTAX);
        Markets.run(market, "leave eve;");
        Expect.same("a script that ends early", market.errorCode(), 0);
        Markets.run(market, "swap a a;");
        Expect.same("another wrong script", market.errorCode(), SeesawMarket.ALREADY_USED);
        Markets.load(market, HEAD);
        Expect.same("a right setup", market.errorCode(), 0);
    }

    private static void theErrorPosition() {
        SeesawMarket market = Markets.first();
        Expect.same("no such call", market.errorPosition(), SeesawMarket.NONE);
        Markets.run(market, "?");
        Expect.same("the first byte", market.errorPosition(), 0);
        Markets.run(market, "wage 1;");
        Expect.same("a right script", market.errorPosition(), SeesawMarket.NONE);
        Markets.load(market, HEAD + " ".repeat(779 - HEAD.length()) + "?".repeat(21));
        Expect.same("far behind", market.errorPosition(), 779);
        Markets.load(market, HEAD + " ".repeat(799 - HEAD.length()) + "?");
        Expect.same("the last byte", market.errorPosition(), 799);
        Markets.load(market, " ".repeat(800));
        Expect.same("behind the last byte", market.errorPosition(), 800);
        Markets.load(market, HEAD);
        Expect.same("a right setup", market.errorPosition(), SeesawMarket.NONE);
    }

    private static void theWholeBuffer() {
        SeesawMarket market = Markets.of(HEAD + "trader a 1 1 1; trader ab 1 1 1; trader abcdef 1 1 1; trader b 1 1 1;");
        Expect.same("a", Markets.find(market, "a"), 0);
        Expect.same("ab", Markets.find(market, "ab"), 1);
        Expect.same("abcdef", Markets.find(market, "abcdef"), 2);
        Expect.same("b", Markets.find(market, "b"), 3);
        for (String text : new String[] {"abc", "abcde", "abcdefa", "abcdefabcdef", " a", "a ", "a;", "A", "a".repeat(800)}) {
            Expect.same("text " + text, Markets.find(market, text), SeesawMarket.NONE);
        }
    }

    private static void theBufferStays() {
        SeesawMarket market = Markets.rich();
        Expect.same("a name of nobody", market.findTrader(), SeesawMarket.NONE);
        Expect.same("length", Markets.bufferLength(market), 3);
        Expect.same("the name is still there", market.join(1, 1), 4);
        Markets.write(market, "eve");
        Expect.same("the name of eve", market.findTrader(), 4);
        Expect.same("the name of eve again", market.findTrader(), 4);
        Expect.same("length", Markets.bufferLength(market), 3);
    }

    private static void nobodyIsFound() {
        Expect.same("an empty buffer", Markets.first().findTrader(), SeesawMarket.NONE);
        Expect.same("a full buffer", withBytes(800).findTrader(), SeesawMarket.NONE);
        Expect.same("no trader", Markets.find(Markets.of(HEAD), "ann"), SeesawMarket.NONE);
        SeesawMarket market = Markets.first();
        Markets.join(market, "eve", 1, 1);
        market.undo();
        Expect.same("a join that was undone", Markets.find(market, "eve"), SeesawMarket.NONE);
        Expect.same("a trader of an earlier market", Markets.find(usedAndLoaded(HEAD), "ann"), SeesawMarket.NONE);
    }
}
