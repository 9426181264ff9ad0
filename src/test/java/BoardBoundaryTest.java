/** The boundary cases that the document's terms name: boards and seats, traders, prices. */
public final class BoardBoundaryTest {
    private static final String HEAD = "market 0 0 0 99 0 0;";

    public static void main(String[] args) {
        boardsAndSeats();
        traders();
        prices();
        Expect.end();
    }

    private static void boardsAndSeats() {
        Sentences.term("There are at most 5 boards, numbered from 0.", BoardBoundaryTest::atMostFiveBoards);
        Sentences.term("A board has an arm length (1 to 6), a stiffness (1 to 99) and a torque limit (0 to 999).",
                BoardBoundaryTest::theNumbersOfABoard);
        Sentences.term("Its seats are identified by their positions: from -arm length to -1 on the left side, and from 1 to arm "
                + "length on the right side.", BoardBoundaryTest::seatsReachToTheArmLength);
        Sentences.term("There is no seat at position 0.", BoardBoundaryTest::noSeatAtPosition0);
        Sentences.term("At most one trader sits on a seat, and a trader sits on at most one seat.",
                BoardBoundaryTest::oneTraderASeatAndOneSeatATrader);
        Sentences.term("The torque of a board is the sum, over its seated traders, of position times weight.",
                BoardBoundaryTest::theTorqueOfEmptyAndFullBoards);
        Sentences.term("The tilt of a board is its torque divided by its stiffness, rounded toward 0, but at least -9 and at "
                + "most 9.", BoardBoundaryTest::theTiltIsRoundedTowardZeroAndBounded);
        Sentences.term("The height of a seat is -position times the tilt of its board.", BoardBoundaryTest::theGreatestHeights);
        Sentences.term("A board tips if the absolute value of its torque is greater than its torque limit.",
                BoardBoundaryTest::aBoardTipsBeyondItsLimit);
    }

    private static void traders() {
        Sentences.term("There are at most 24 traders, numbered from 0 in the order in which they appeared.",
                BoardBoundaryTest::atMost24Traders);
        Sentences.term("A trader has a name (1 to 6 letters a to z; all names are different), a weight (1 to 99), a purse with "
                + "coins, and an age in days.", BoardBoundaryTest::namesAndWeights);
        Sentences.term("A trader is present until it retires.", BoardBoundaryTest::presentUntilRetirement);
        Sentences.term("A retired trader keeps its number, its name, its weight and its age, but has an empty purse and no seat.",
                BoardBoundaryTest::whatARetiredTraderKeeps);
        Sentences.term("Coins move only between purses and the bank; a trader that joins brings its coins along.",
                BoardBoundaryTest::theSumOfTheCoins);
    }

    private static void prices() {
        Sentences.term("The price of a seat is the base price plus the distance of the seat from position 0, plus the height of "
                + "the seat if the height is greater than 0.", BoardBoundaryTest::theHeightCountsAboveZeroOnly);
        Sentences.term("The unit price of weight between a seller and a buyer is the weight price plus the height of the buyer's "
                + "seat minus the height of the seller's seat, but at least 1.", BoardBoundaryTest::theUnitPriceIsAtLeast1);
    }

    private static void atMostFiveBoards() {
        String five = HEAD + "board 1 1 1; board 2 1 1; board 3 1 1; board 4 1 1; board 5 1 1;";
        SeesawMarket market = Markets.of(five);
        Expect.same("boards", market.boardCount(), 5);
        for (int board = 0; board < 5; board++) {
            Expect.same("arm length of board " + board, market.armLength(board), board + 1);
        }
        Expect.same("no board", Markets.of(HEAD).boardCount(), 0);
        Expect.noIndex("board 5 of five", () -> Markets.of(five), full -> full.armLength(5));
        Expect.noIndex("board -1", () -> Markets.of(five), full -> full.armLength(-1));
        Texts.setupError(SeesawMarket.TOO_MANY, five + "~board 1 1 1;");
    }

    private static void theNumbersOfABoard() {
        Texts.setupRange(HEAD + "board ~ 1 1;", 1, 6);
        Texts.setupRange(HEAD + "board 1 ~ 1;", 1, 99);
        Texts.setupRange(HEAD + "board 1 1 ~;", 0, 999);
        SeesawMarket market = Markets.of(HEAD + "board 1 1 0; board 6 99 999;");
        Expect.same("the least arm length", market.armLength(0), 1);
        Expect.same("the greatest arm length", market.armLength(1), 6);
        Expect.same("the least stiffness", market.stiffness(0), 1);
        Expect.same("the greatest stiffness", market.stiffness(1), 99);
        String heavy = HEAD + "board 6 99 999; trader a 99 0 0; trader b 81 0 0; trader c 1 0 0; seat a 0 right 6;"
                + "seat b 0 right 5;";
        Expect.same("falls at a torque of 999", Markets.of(heavy).advance(1), 0);
        Expect.same("falls at a torque of 1000", Markets.of(heavy + "seat c 0 right 1;").advance(1), 1);
        String light = HEAD + "board 1 1 0; trader a 1 0 0; trader b 1 0 0; seat a 0 left 1;";
        Expect.same("falls at a torque of -1 and a limit of 0", Markets.of(light).advance(1), 1);
        Expect.same("falls at a torque of 0 and a limit of 0", Markets.of(light + "seat b 0 right 1;").advance(1), 0);
    }

    private static void seatsReachToTheArmLength() {
        for (int arm = 1; arm <= 6; arm++) {
            String setup = HEAD + "board " + arm + " 1 1;";
            int beyond = arm + 1;
            for (int distance = 1; distance <= arm; distance++) {
                Expect.same("left seat", Markets.of(setup).seatOwner(0, -distance), SeesawMarket.NONE);
                Expect.same("right seat", Markets.of(setup).seatOwner(0, distance), SeesawMarket.NONE);
            }
            Expect.noIndex("beyond the left end of " + arm, () -> Markets.of(setup), market -> market.seatOwner(0, -beyond));
            Expect.noIndex("beyond the right end of " + arm, () -> Markets.of(setup), market -> market.seatOwner(0, beyond));
        }
    }

    private static void noSeatAtPosition0() {
        Expect.noIndex("owner", Markets::rich, market -> market.seatOwner(0, 0));
        Expect.noIndex("height", Markets::rich, market -> market.seatHeight(0, 0));
        Expect.noIndex("price", Markets::rich, market -> market.seatPrice(0, 0));
        Expect.noIndex("reason", Markets::rich, market -> market.reasonAgainstSeat(Markets.DAN, 0, 0));
        Expect.noIndex("purchase", Markets::rich, market -> market.buySeat(Markets.DAN, 0, 0));
        Expect.same("no free seat but 0", Markets.of(HEAD + "board 1 9 9; trader a 1 1 1; trader b 1 1 1; seat a 0 left 1;"
                + "seat b 0 right 1;").balancingSeat(0, 1), 0);
        Expect.same("seats of arm length 1", Markets.of(HEAD + "board 1 9 9; trader a 1 1 1; seat a 0 left 1;").occupancy()
                == 0.5f, true);
    }

    private static void oneTraderASeatAndOneSeatATrader() {
        Expect.noState("a second trader on a seat", Markets::first, market -> market.buySeat(Markets.DAN, 0, -2));
        Texts.setupError(SeesawMarket.ALREADY_USED, HEAD + "board 2 1 9; trader a 1 1 1; trader b 1 1 1; seat a 0 left 2;"
                + "seat b 0 left ~2;");
        Texts.setupError(SeesawMarket.ALREADY_USED, HEAD + "board 2 1 9; trader a 1 1 1; seat a 0 left 2; seat ~a 0 left 1;");
        SeesawMarket market = Markets.first();
        market.buySeat(Markets.ANN, 0, -1);
        Expect.same("the former seat", market.seatOwner(0, -2), SeesawMarket.NONE);
        Expect.same("the new seat", market.seatOwner(0, -1), Markets.ANN);
        market.buySeat(Markets.ANN, 1, -1);
        Expect.same("the former board", Markets.board(market, 0), ". . . ^ . . bob");
        Expect.same("the new board", Markets.board(market, 1), ". ann ^ cat .");
        Expect.sameFloat("taken seats", market.occupancy(), 3.0f / 10.0f);
    }

    private static void theTorqueOfEmptyAndFullBoards() {
        Expect.same("an empty board", Markets.of(HEAD + "board 6 1 0;").torque(0), 0);
        Expect.same("a full right side", Markets.of(side("right", 99)).torque(0), 99 * 21);
        Expect.same("a full left side", Markets.of(side("left", 99)).torque(0), -99 * 21);
    }

    private static String side(String side, int weight) {
        StringBuilder setup = new StringBuilder(HEAD + "board 6 1 999;");
        for (char letter = 'a'; letter <= 'f'; letter++) {
            setup.append("trader ").append(letter).append(' ').append(weight).append(" 0 0;");
        }
        for (char letter = 'a'; letter <= 'f'; letter++) {
            setup.append("seat ").append(letter).append(" 0 ").append(side).append(' ').append(letter - 'a' + 1).append(';');
        }
        return setup.toString();
    }

    private static SeesawMarket withTorque(int stiffness, String seat, int weight) {
        return Markets.of(HEAD + "board 6 " + stiffness + " 999; trader a " + weight + " 0 0; seat a 0 " + seat + ";");
    }

    private static void theTiltIsRoundedTowardZeroAndBounded() {
        int[][] tiltsOfWeights = {{1, 0}, {3, 0}, {4, 1}, {7, 1}, {8, 2}, {35, 8}, {36, 9}, {39, 9}, {40, 9}, {99, 9}};
        for (int[] tiltOfWeight : tiltsOfWeights) {
            Expect.same(tiltOfWeight[0] + " / 4", withTorque(4, "right 1", tiltOfWeight[0]).tilt(0), tiltOfWeight[1]);
            Expect.same("-" + tiltOfWeight[0] + " / 4", withTorque(4, "left 1", tiltOfWeight[0]).tilt(0), -tiltOfWeight[1]);
        }
        Expect.same("98 / 99", withTorque(99, "right 1", 98).tilt(0), 0);
        Expect.same("-98 / 99", withTorque(99, "left 1", 98).tilt(0), 0);
        Expect.same("99 / 99", withTorque(99, "right 1", 99).tilt(0), 1);
        Expect.same("-99 / 99", withTorque(99, "left 1", 99).tilt(0), -1);
        Expect.same("the greatest torque", Markets.of(side("right", 99)).tilt(0), 9);
        Expect.same("the least torque", Markets.of(side("left", 99)).tilt(0), -9);
        Expect.same("no torque", Markets.of(HEAD + "board 6 1 0;").tilt(0), 0);
    }

    private static void theGreatestHeights() {
        SeesawMarket right = withTorque(1, "right 6", 99);
        Expect.same("the highest seat", right.seatHeight(0, -6), 54);
        Expect.same("the lowest seat", right.seatHeight(0, 6), -54);
        Expect.same("left of the middle", right.seatHeight(0, -1), 9);
        Expect.same("right of the middle", right.seatHeight(0, 1), -9);
        SeesawMarket left = withTorque(1, "left 6", 99);
        Expect.same("the highest seat on the right", left.seatHeight(0, 6), 54);
        Expect.same("the lowest seat on the left", left.seatHeight(0, -6), -54);
        Expect.same("at a tilt of 0", withTorque(99, "right 1", 98).seatHeight(0, 6), 0);
    }

    private static void aBoardTipsBeyondItsLimit() {
        for (String side : new String[] {"left 2", "right 2"}) {
            String setup = HEAD + "board 2 1 %d; trader a 5 0 0; seat a 0 " + side + ";";
            Expect.same("a torque of one less, " + side, Markets.of(String.format(setup, 11)).advance(1), 0);
            Expect.same("a torque of the limit, " + side, Markets.of(String.format(setup, 10)).advance(1), 0);
            Expect.same("a torque of one more, " + side, Markets.of(String.format(setup, 9)).advance(1), 1);
        }
    }

    private static void atMost24Traders() {
        SeesawMarket loaded = Markets.of(Markets.withTraders(24));
        Expect.same("traders of a setup", loaded.traderCount(), 24);
        Expect.same("the first one", Markets.name(loaded, 0), "a");
        Expect.same("the last one", Markets.name(loaded, 23), "x");
        Texts.setupError(SeesawMarket.TOO_MANY, Markets.withTraders(24) + "~trader y 1 1 1;");
        SeesawMarket joined = Markets.of(HEAD);
        for (int number = 0; number < 24; number++) {
            Expect.same("join " + number, Markets.join(joined, "t" + (char) ('z' - number), 1, 1), number);
        }
        Expect.same("the first one that joined", Markets.name(joined, 0), "tz");
        Expect.same("the last one that joined", Markets.name(joined, 23), "tc");
        Expect.noState("trader 25", BoardBoundaryTest::fullWithText, market -> market.join(1, 1));
        Expect.same("trader 25 of a script", Markets.run(Markets.of(Markets.withTraders(23)), "join y 1 1; join z 1 1;"), 1);
        Expect.same("no trader", Markets.of(HEAD).traderCount(), 0);
    }

    private static SeesawMarket fullWithText() {
        SeesawMarket market = Markets.of(Markets.withTraders(24));
        Markets.write(market, "new");
        return market;
    }

    private static void namesAndWeights() {
        for (String name : new String[] {"a", "z", "az", "abcdef", "zzzzzz"}) {
            SeesawMarket market = Markets.of(HEAD + "trader " + name + " 1 1 1;");
            Expect.same("name in a setup", Markets.name(market, 0), name);
            Expect.same("find " + name, Markets.find(market, name), 0);
        }
        for (String name : new String[] {"abcdefg", "A", "a`", "a{", "1"}) {
            Expect.same("no name in a setup: " + name, Markets.load(Markets.first(), HEAD + "trader " + name + " 1 1 1;"),
                    SeesawMarket.SYNTAX);
        }
        Texts.setupError(SeesawMarket.ALREADY_USED, HEAD + "trader ab 1 1 1; trader a 1 1 1; trader ~ab 1 1 1;");
        Texts.setupIsRight(HEAD + "trader ab 1 1 1; trader a 1 1 1; trader abc 1 1 1; trader ba 1 1 1;");
        Texts.setupRange(HEAD + "trader a ~ 1 1;", 1, 99);
        Texts.scriptRange("join eve ~ 1;", 1, 99);
    }

    private static void presentUntilRetirement() {
        SeesawMarket market = Markets.of("market 0 0 0 2 0 0; board 1 1 0; trader a 1 1 0; seat a 0 left 1;");
        Expect.same("before the first day", market.isPresent(0), true);
        Expect.same("falls", market.advance(1), 1);
        Expect.same("after a fall", market.isPresent(0), true);
        market.advance(1);
        Expect.same("at the retirement age", market.isPresent(0), true);
        market.advance(1);
        Expect.same("beyond the retirement age", market.isPresent(0), false);
        market.undo();
        Expect.same("again after an undo", market.isPresent(0), true);
    }

    private static void whatARetiredTraderKeeps() {
        SeesawMarket market = Markets.first();
        market.advance(30);
        market.advance(30);
        Expect.same("number and name", Markets.find(market, "cat"), Markets.CAT);
        Expect.same("weight", market.weightOf(Markets.CAT), 8);
        Expect.same("age", market.ageOf(Markets.CAT), 41);
        Expect.same("purse", market.purseOf(Markets.CAT), 0);
        Expect.same("board", market.boardOf(Markets.CAT), SeesawMarket.NONE);
        Expect.same("position", market.positionOf(Markets.CAT), 0);
        Expect.same("its seat", market.seatOwner(1, 1), SeesawMarket.NONE);
        Expect.same("all have retired", market.richestAt(0), SeesawMarket.NONE);
        Expect.same("all keep their numbers", market.traderCount(), 4);
    }

    private static int coins(SeesawMarket market) {
        int coins = market.bank();
        for (int trader = 0; trader < market.traderCount(); trader++) {
            coins += market.purseOf(trader);
        }
        return coins;
    }

    private static void theSumOfTheCoins() {
        SeesawMarket market = Markets.first();
        Expect.same("at first", coins(market), 307);
        Markets.runAll(market, "buy dan 0 right 1; sell bob ann 1; swap ann cat; leave bob; days 30; days 30;");
        Expect.same("when all have retired", coins(market), 307);
        Expect.same("all of it in the bank", market.bank(), 307);
        Markets.join(market, "poor", 1, 0);
        Expect.same("a trader without coins", coins(market), 307);
        Markets.join(market, "rich", 1, 9999);
        Expect.same("a trader with the most coins", coins(market), 10306);
        Expect.same("the bank of the joins", market.bank(), 307);
        market.undo();
        Expect.same("after an undo", coins(market), 307);
    }

    private static void theHeightCountsAboveZeroOnly() {
        SeesawMarket sloping = Markets.of("market 0 4 0 99 0 0; board 3 1 99; trader a 1 0 0; seat a 0 right 1;");
        Expect.same("a height of 1", sloping.seatPrice(0, -1), 4 + 1 + 1);
        Expect.same("a height of -1", sloping.seatPrice(0, 1), 4 + 1);
        Expect.same("a height of 3", sloping.seatPrice(0, -3), 4 + 3 + 3);
        Expect.same("a height of -3", sloping.seatPrice(0, 3), 4 + 3);
        SeesawMarket level = Markets.of("market 0 4 0 99 0 0; board 3 1 99;");
        Expect.same("a height of 0 on the left", level.seatPrice(0, -3), 4 + 3);
        Expect.same("a height of 0 on the right", level.seatPrice(0, 1), 4 + 1);
        String steep = "market 0 %d 0 99 0 0; board 6 1 999; trader a 99 0 0; seat a 0 right 6;";
        Expect.same("the greatest price", Markets.of(String.format(steep, 99)).seatPrice(0, -6), 99 + 6 + 54);
        Expect.same("the least price", Markets.of(String.format(steep, 0)).seatPrice(0, 1), 1);
    }

    private static void theUnitPriceIsAtLeast1() {
        // The tilt is 1: a sits at -1 and b at 1.
        String setup = "market 0 0 %d 99 0 0; board 1 1 99; trader a 2 0 0; trader b 1 0 0; seat a 0 right 1; seat b 0 left 1;";
        int[][] pricesOfWeightPrices = {{0, 1, 2}, {1, 1, 3}, {2, 1, 4}, {3, 1, 5}, {4, 2, 6}, {99, 97, 101}};
        for (int[] row : pricesOfWeightPrices) {
            SeesawMarket market = Markets.of(String.format(setup, row[0]));
            Expect.same("from the high one at " + row[0], market.weightUnitPrice(1, 0), row[1]);
            Expect.same("from the low one at " + row[0], market.weightUnitPrice(0, 1), row[2]);
        }
        Expect.same("level at a weight price of 0", Markets.of(String.format(setup, 0)).weightUnitPrice(0, 0), 1);
        SeesawMarket steep = Markets.of("market 0 0 99 99 0 0; board 6 1 999; trader a 99 0 0; trader b 1 0 0;"
                + "seat a 0 right 6; seat b 0 left 6;");
        Expect.same("the greatest unit price", steep.weightUnitPrice(0, 1), 99 + 108);
        Expect.same("the other way round", steep.weightUnitPrice(1, 0), 1);
    }
}
