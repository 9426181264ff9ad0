/** Promises 1 and 4: the market of a new object, and setups with their errors. */
public final class SetupTest {
    private static final String HEAD = "market 1 2 3 40 5 60;";

    public static void main(String[] args) {
        promise1ANewObjectIsTheFirstSetup();
        promise1TheRestOfANewObjectIsEmpty();
        promise4LoadBeginsANewMarket();
        promise4LoadTakesEachRangeToItsEnds();
        promise4LoadWithAnErrorLeavesTheMarket();
        promise4LoadWithoutAnErrorForgetsTheOldMarket();
        promise4LoadForgetsForecastsAndFailures();
        errorsOfTheMarket();
        errorsOfBoards();
        errorsOfTraders();
        errorsOfSeats();
        errorsOfTheOrder();
        tooManyBoards();
        tooManyTraders();
        namesMayBeWordsOfTheGrammar();
        Expect.end();
    }

    private static void promise1ANewObjectIsTheFirstSetup() {
        SeesawMarket market = Markets.first();
        Expect.same("state", Markets.state(market), "day 0 bank 200 wage 3 base 4 age 40 sold 0 0 falls 0 contradictions 0 "
                + " board 3 10 -1 0 -1 ^  -1 -1 1 board 2 5 -1 -1 ^  2 -1"
                + " trader ann 10 30 0 true 0 -2 trader bob 6 25 12 true 0 3 trader cat 8 12 38 true 1 1"
                + " trader dan 15 40 5 true -1 0");
        Expect.same("weight price", market.weightUnitPrice(Markets.ANN, Markets.BOB), 2);
        Expect.same("a loaded one is the same", Markets.state(Markets.of(Markets.FIRST_SETUP)), Markets.state(market));
    }

    private static void promise1TheRestOfANewObjectIsEmpty() {
        SeesawMarket market = Markets.first();
        Expect.same("buffer", Markets.bufferLength(market), 0);
        Expect.same("output", market.outputByte(0), SeesawMarket.NONE);
        Expect.same("undo", market.undoCount(), 0);
        Expect.noState("an empty slot 0", Markets::first, empty -> empty.restore(0));
        Expect.noState("an empty slot 1", Markets::first, empty -> empty.restore(1));
    }

    private static void promise4LoadBeginsANewMarket() {
        SeesawMarket market = Markets.of(HEAD + "board 2 3 4; board 6 99 999; trader q 5 6 7; seat q 1 right 6;");
        Expect.same("state", Markets.state(market), "day 0 bank 60 wage 1 base 2 age 40 sold 0 0 falls 0 contradictions 0 "
                + " board 2 3 -1 -1 ^  -1 -1 board 6 99 -1 -1 -1 -1 -1 -1 ^  -1 -1 -1 -1 -1 0 trader q 5 6 7 true 1 6");
        Expect.same("the buffer is empty", Markets.bufferLength(market), 0);
        Expect.same("no board, no trader", Markets.state(Markets.of(HEAD)),
                "day 0 bank 60 wage 1 base 2 age 40 sold 0 0 falls 0 contradictions 0 ");
    }

    private static void promise4LoadTakesEachRangeToItsEnds() {
        Markets.of("market 0 0 0 1 0 0; board 1 1 0; trader a 1 0 0; trader b 1 0 1; seat a 0 left 1;");
        SeesawMarket market = Markets.of("market 20 99 99 999 999 99999; board 6 99 999; board 1 1 1;"
                + "trader abcdef 99 9999 999; seat abcdef 1 right 1;");
        Expect.same("bank", market.bank(), 99999);
        Expect.same("age", market.ageOf(0), 999);
        Expect.same("purse", market.purseOf(0), 9999);
        Expect.same("a board that tips is allowed", Markets.of(HEAD + "board 1 1 0; trader a 9 1 1; seat a 0 left 1;")
                .torque(0), -9);
    }

    private static void promise4LoadWithAnErrorLeavesTheMarket() {
        SeesawMarket market = Markets.first();
        market.advance(1);
        market.save(1);
        market.writeBoard(0);
        String before = Markets.state(market);
        Expect.same("load", Markets.load(market, "market 9 9 9 9 9 9; board 1 1 1; trader a 1 1 10;"), 2);
        Expect.same("state", Markets.state(market), before);
        Expect.same("the buffer is empty", Markets.bufferLength(market), 0);
        Expect.same("undo", market.undoCount(), 1);
        Expect.same("slot", market.restore(1), 1);
    }

    private static SeesawMarket loadedAfterChanges() {
        SeesawMarket market = Markets.first();
        Markets.runAll(market, "buy dan 0 left 3; sell dan ann 1; leave bob; days 30; days 30;");
        Expect.same("a fall", market.fallCount(), 1);
        market.bankAfter(9);
        market.save(0);
        market.save(1);
        market.writeBoard(1);
        Markets.load(market, Markets.FIRST_SETUP);
        return market;
    }

    private static void promise4LoadWithoutAnErrorForgetsTheOldMarket() {
        SeesawMarket market = loadedAfterChanges();
        Expect.same("state", Markets.state(market), Markets.state(Markets.first()));
        Expect.same("undo", market.undoCount(), 0);
        Expect.same("the output stays", Markets.output(market), ". . ^ . .");
        Expect.noState("slot 0", SetupTest::loadedAfterChanges, loaded -> loaded.restore(0));
        Expect.noState("slot 1", SetupTest::loadedAfterChanges, loaded -> loaded.restore(1));
        Expect.noState("undo", SetupTest::loadedAfterChanges, loaded -> loaded.undo());
    }

    private static void promise4LoadForgetsForecastsAndFailures() {
        SeesawMarket market = loadedAfterChanges();
        market.bankAfter(100);
        Markets.load(market, Markets.FIRST_SETUP + "seat dan 1 left 2; seat");
        Expect.same("load", Markets.load(market, HEAD + "board 3 1 9; trader x 1 1 1; trader y 1 1 1; seat y 0 left 3;"), 0);
        Expect.same("state", Markets.state(market), "day 0 bank 60 wage 1 base 2 age 40 sold 0 0 falls 0 contradictions 0 "
                + " board 3 1 1 -1 -1 ^  -1 -1 -1 trader x 1 1 1 true -1 0 trader y 1 1 1 true 0 -3");
    }

    private static void errorsOfTheMarket() {
        Texts.setupError(SeesawMarket.SYNTAX, "~");
        Texts.setupError(SeesawMarket.SYNTAX, "  ~");
        Texts.setupError(SeesawMarket.SYNTAX, "~board 1 1 1;");
        Texts.setupError(SeesawMarket.SYNTAX, "~markets 1 2 3 4 5 6;");
        Texts.setupError(SeesawMarket.SYNTAX, "~marke 1 2 3 4 5 6;");
        Texts.setupError(SeesawMarket.SYNTAX, "~basket 1 2 3 4 5 6;");
        Texts.setupError(SeesawMarket.SYNTAX, HEAD + "~hoard 1 1 1;");
        Texts.setupError(SeesawMarket.SYNTAX, "~1 2 3 4 5 6;");
        Texts.setupError(SeesawMarket.OUT_OF_RANGE, "market ~21 100 100");
        Texts.setupError(SeesawMarket.OUT_OF_RANGE, "market 20 ~100 100");
        Texts.setupError(SeesawMarket.OUT_OF_RANGE, "market 20 99 ~100 1");
        Texts.setupError(SeesawMarket.OUT_OF_RANGE, "market 20 99 99 ~0 1");
        Texts.setupError(SeesawMarket.OUT_OF_RANGE, "market 20 99 99 ~1000 1");
        Texts.setupError(SeesawMarket.OUT_OF_RANGE, "market 20 99 99 999 ~1000 1");
        Texts.setupError(SeesawMarket.OUT_OF_RANGE, "market 20 99 99 999 999 ~100000;");
        Texts.setupError(SeesawMarket.SYNTAX, "market 20 99 99 999 999 99999~");
        Texts.setupError(SeesawMarket.SYNTAX, "market 20 99 99 999 999 99999 ~board");
        Texts.setupError(SeesawMarket.SYNTAX, "market 20 99 99 999 999 99999 ~1;");
        Texts.setupError(SeesawMarket.SYNTAX, "market 20 99 ~;");
        Texts.setupError(SeesawMarket.SYNTAX, "market 20 99 ~x");
        Texts.setupError(SeesawMarket.SYNTAX, "market ~-1");
        Texts.setupError(SeesawMarket.SYNTAX, HEAD + "~;");
        Texts.setupError(SeesawMarket.SYNTAX, HEAD + "~market 1 2 3 4 5 6;");
        Texts.setupError(SeesawMarket.SYNTAX, HEAD + " ~days 1;");
        Texts.setupError(SeesawMarket.SYNTAX, HEAD + " ~(");
        Texts.setupError(SeesawMarket.SYNTAX, HEAD + " ~7");
    }

    private static void errorsOfBoards() {
        Texts.setupError(SeesawMarket.OUT_OF_RANGE, HEAD + "board ~0 1 1;");
        Texts.setupError(SeesawMarket.OUT_OF_RANGE, HEAD + "board ~7 1 1;");
        Texts.setupError(SeesawMarket.OUT_OF_RANGE, HEAD + "board 6 ~0 1;");
        Texts.setupError(SeesawMarket.OUT_OF_RANGE, HEAD + "board 6 ~100 1;");
        Texts.setupError(SeesawMarket.OUT_OF_RANGE, HEAD + "board 6 99 ~1000;");
        Texts.setupError(SeesawMarket.SYNTAX, HEAD + "board 6 99 999 ~9;");
        Texts.setupError(SeesawMarket.SYNTAX, HEAD + "board 6 99 ~;");
        Texts.setupError(SeesawMarket.SYNTAX, HEAD + "board 6 99 999~");
        Texts.setupError(SeesawMarket.SYNTAX, HEAD + "board ~x 99 999;");
        Texts.setupError(SeesawMarket.SYNTAX, HEAD + "~boards 1 1 1;");
    }

    private static void errorsOfTraders() {
        String first = HEAD + "trader a 1 1 1;";
        Texts.setupError(SeesawMarket.SYNTAX, HEAD + "trader ~abcdefg 1 1 1;");
        Texts.setupError(SeesawMarket.SYNTAX, HEAD + "trader ~1 1 1 1;");
        Texts.setupError(SeesawMarket.SYNTAX, HEAD + "trader ~;");
        Texts.setupError(SeesawMarket.ALREADY_USED, first + "trader ~a 0 1 1;");
        Texts.setupError(SeesawMarket.ALREADY_USED, first + "trader b 1 1 1; trader ~a");
        Texts.setupError(SeesawMarket.OUT_OF_RANGE, first + "trader b ~0 1 1;");
        Texts.setupError(SeesawMarket.OUT_OF_RANGE, first + "trader b ~100 1 1;");
        Texts.setupError(SeesawMarket.OUT_OF_RANGE, first + "trader b 99 ~10000 1;");
        Texts.setupError(SeesawMarket.OUT_OF_RANGE, first + "trader b 99 9999 ~41;");
        Texts.setupError(SeesawMarket.OUT_OF_RANGE, "market 1 2 3 999 5 6; trader b 99 9999 ~1000;");
        Texts.setupError(SeesawMarket.SYNTAX, first + "trader b 99 9999 40 ~4;");
        Texts.setupError(SeesawMarket.SYNTAX, first + "trader b 99 9999 ~;");
        Texts.setupError(SeesawMarket.SYNTAX, first + "trader b~");
        Texts.setupError(SeesawMarket.SYNTAX, first + "trader B".replace("B", "~B") + " 1 1 1;");
    }

    private static void errorsOfSeats() {
        String first = HEAD + "board 2 1 99; board 3 1 99; trader a 1 1 1; trader b 2 2 2;";
        Texts.setupError(SeesawMarket.UNKNOWN_NAME, first + "seat ~c 9 up 9;");
        Texts.setupError(SeesawMarket.SYNTAX, first + "seat ~aaaaaaa 0 left 1;");
        Texts.setupError(SeesawMarket.SYNTAX, first + "seat ~0 left 1;");
        Texts.setupError(SeesawMarket.ALREADY_USED, first + "seat a 0 left 1; seat ~a 0 left 9;");
        Texts.setupError(SeesawMarket.OUT_OF_RANGE, first + "seat a ~2 up 1;");
        Texts.setupError(SeesawMarket.OUT_OF_RANGE, HEAD + "trader a 1 1 1; seat a ~0 left 1;");
        Texts.setupError(SeesawMarket.SYNTAX, first + "seat a ~left 1;");
        Texts.setupError(SeesawMarket.SYNTAX, first + "seat a 1 ~up 0;");
        Texts.setupError(SeesawMarket.SYNTAX, first + "seat a 1 ~3;");
        Texts.setupError(SeesawMarket.SYNTAX, first + "seat a 1 ~leftright 1;");
        Texts.setupError(SeesawMarket.OUT_OF_RANGE, first + "seat a 0 left ~0;");
        Texts.setupError(SeesawMarket.OUT_OF_RANGE, first + "seat a 0 left ~3;");
        Texts.setupError(SeesawMarket.OUT_OF_RANGE, first + "seat a 1 right ~4;");
        Texts.setupError(SeesawMarket.ALREADY_USED, first + "seat a 1 right 3; seat b 1 right ~3;");
        Texts.setupError(SeesawMarket.OUT_OF_RANGE, first + "seat a 1 right 3; seat b 0 right ~3;");
        Texts.setupError(SeesawMarket.SYNTAX, first + "seat a 1 right 3 ~3;");
        Texts.setupError(SeesawMarket.SYNTAX, first + "seat a 1 right ~;");
        Texts.setupError(SeesawMarket.SYNTAX, first + "seat a 1 right 3~");
        Markets.of(first + "seat a 1 right 3; seat b 1 left 3;");
        Markets.of(first + "seat b 1 right 2; seat a 0 right 2;");
    }

    private static void errorsOfTheOrder() {
        String all = HEAD + "board 2 1 99; trader a 1 1 1; seat a 0 left 1;";
        Texts.setupError(SeesawMarket.SYNTAX, HEAD + "trader a 1 1 1; ~board 2 1 99;");
        Texts.setupError(SeesawMarket.SYNTAX, all + "~board 2 1 99;");
        Texts.setupError(SeesawMarket.SYNTAX, all + "~trader b 1 1 1;");
        Texts.setupError(SeesawMarket.UNKNOWN_NAME, HEAD + "seat ~a 0 left 1;");
        // The first token with an error counts, whatever follows.
        Texts.setupError(SeesawMarket.OUT_OF_RANGE, HEAD + "board ~7 100 1000 ? trader");
    }

    private static void tooManyBoards() {
        String five = HEAD + "board 1 1 1;".repeat(5);
        Expect.same("five boards", Markets.of(five).boardCount(), 5);
        Texts.setupError(SeesawMarket.TOO_MANY, five + "~board 9 9 9;");
        Texts.setupError(SeesawMarket.TOO_MANY, five + "~board");
        Texts.setupError(SeesawMarket.SYNTAX, five + "~boards");
        Texts.setupError(SeesawMarket.SYNTAX, five + "trader a 1 1 1; ~board 1 1 1;");
    }

    private static void tooManyTraders() {
        StringBuilder traders = new StringBuilder(HEAD);
        traders.append("board 6 9 9;");
        for (char letter = 'a'; letter <= 'x'; letter++) {
            traders.append("trader ").append(letter).append(" 1 1 1;");
        }
        SeesawMarket market = Markets.of(traders.toString());
        Expect.same("24 traders", market.traderCount(), 24);
        Expect.same("the last of them", Markets.name(market, 23), "x");
        Texts.setupError(SeesawMarket.TOO_MANY, traders + "~trader a 0");
        Texts.setupError(SeesawMarket.TOO_MANY, traders + "~trader");
        Texts.setupError(SeesawMarket.SYNTAX, traders + "seat x 0 left 1; ~trader y 1 1 1;");
        Expect.same("seats behind 24 traders", Markets.of(traders + "seat x 0 left 6;").positionOf(23), -6);
    }

    private static void namesMayBeWordsOfTheGrammar() {
        SeesawMarket market = Markets.of(HEAD + "board 2 1 99; trader board 1 1 1; trader seat 1 9 1; trader left 1 9 1;"
                + "trader trader 1 1 1; seat seat 0 left 1; seat left 0 right 1;");
        Expect.same("board", Markets.board(market, 0), ". seat ^ left .");
        Expect.same("script", Markets.run(market, "swap left seat; buy board 0 left 2; join days 1 1; leave left;"), 1);
        Expect.same("swapped", Markets.board(market, 0), ". left ^ seat .");
    }
}
