/** The boundary cases that the promises 8 to 23 and 25 to 33 name: the market, boards and traders. */
public final class MarketBoundaryTest {
    private static final String HEAD = "market 0 0 0 99 0 0;";
    private static final String NO_BOARD = "Throws `IndexOutOfBoundsException` if there is no such board";
    private static final String NO_BOARD_OR_SEAT = "Throws `IndexOutOfBoundsException` if there is no such board or seat";
    private static final String NO_TRADER = "Throws `IndexOutOfBoundsException` if there is no such trader";

    public static void main(String[] args) {
        theMarket();
        boards();
        seats();
        balancingSeat();
        traders();
        richestAt();
        Expect.end();
    }

    private static void theMarket() {
        Sentences.promise(8, "Returns the day, from 0.", MarketBoundaryTest::days);
        Sentences.promise(9, "Returns the number of coins.", MarketBoundaryTest::banks);
        Sentences.promise(10, "Returns 0 to 20.", MarketBoundaryTest::wages);
        Sentences.promise(11, "Returns 0 to 99.", MarketBoundaryTest::basePrices);
        Sentences.promise(12, "Returns 1 to 999.", MarketBoundaryTest::retirementAges);
        Sentences.promise(13, "Returns 0 to 5.", MarketBoundaryTest::boardCounts);
    }

    private static void boards() {
        Sentences.promise(14, "Returns 1 to 6.", MarketBoundaryTest::armLengths);
        Sentences.promise(14, NO_BOARD, () -> Missing.board(SeesawMarket::armLength));
        Sentences.promise(15, "Returns 1 to 99.", MarketBoundaryTest::stiffnesses);
        Sentences.promise(15, NO_BOARD, () -> Missing.board(SeesawMarket::stiffness));
        Sentences.promise(16, "Returns the torque, positive if the right side is heavier.", MarketBoundaryTest::torques);
        Sentences.promise(16, NO_BOARD, () -> Missing.board(SeesawMarket::torque));
        Sentences.promise(17, "Returns -9 to 9.", MarketBoundaryTest::tilts);
        Sentences.promise(17, NO_BOARD, () -> Missing.board(SeesawMarket::tilt));
        Sentences.promise(18, "Returns true if its torque is 0.", MarketBoundaryTest::balances);
        Sentences.promise(18, NO_BOARD, () -> Missing.board(SeesawMarket::isBalanced));
    }

    private static void seats() {
        Sentences.promise(19, "Returns the trader; NONE if the seat is free.", MarketBoundaryTest::owners);
        Sentences.promise(19, NO_BOARD_OR_SEAT, () -> Missing.boardOrSeat(SeesawMarket::seatOwner));
        Sentences.promise(20, "Returns the height.", MarketBoundaryTest::heights);
        Sentences.promise(20, NO_BOARD_OR_SEAT, () -> Missing.boardOrSeat(SeesawMarket::seatHeight));
        Sentences.promise(21, "Returns the price of a seat, whether the seat is free or not.", MarketBoundaryTest::prices);
        Sentences.promise(21, NO_BOARD_OR_SEAT, () -> Missing.boardOrSeat(SeesawMarket::seatPrice));
    }

    private static void balancingSeat() {
        Sentences.promise(22, "Finds the free seat on which a further trader with the given weight would make the absolute value "
                + "of the torque least.", MarketBoundaryTest::theFreeSeatOfTheLeastTorque);
        Sentences.promise(22, "of several such seats the smallest position; 0 if no seat is free.",
                MarketBoundaryTest::severalSeatsAndNone);
        Sentences.promise(22, "`weight`: 1 to 99", MarketBoundaryTest::balancingWeights);
        Sentences.promise(22, NO_BOARD, () -> Missing.board((market, board) -> market.balancingSeat(board, 0)));
        Sentences.promise(22, "Throws `IllegalArgumentException` if weight is out of range",
                MarketBoundaryTest::balancingRefusesOtherWeights);
    }

    private static void traders() {
        Sentences.promise(23, "Returns the number of traders, including retired ones.", MarketBoundaryTest::retiredOnesCount);
        Sentences.promise(23, "Returns 0 to 24.", MarketBoundaryTest::traderCounts);
        Sentences.promise(25, "`index`: the index of the letter, from 0", MarketBoundaryTest::firstAndLastLetters);
        Sentences.promise(25, "Returns the letter as a byte; NONE if the name has no letter with this index.",
                MarketBoundaryTest::lettersThatAreNotThere);
        Sentences.promise(25, NO_TRADER, () -> Missing.trader((market, trader) -> market.nameLetter(trader, -1)));
        Sentences.promise(26, "Returns 1 to 99.", MarketBoundaryTest::weights);
        Sentences.promise(26, NO_TRADER, () -> Missing.trader(SeesawMarket::weightOf));
        Sentences.promise(27, "Returns the number of coins.", MarketBoundaryTest::purses);
        Sentences.promise(27, NO_TRADER, () -> Missing.trader(SeesawMarket::purseOf));
        Sentences.promise(28, "Returns the age in days.", MarketBoundaryTest::ages);
        Sentences.promise(28, NO_TRADER, () -> Missing.trader(SeesawMarket::ageOf));
        Sentences.promise(29, "Returns false if the trader has retired.", MarketBoundaryTest::presence);
        Sentences.promise(29, NO_TRADER, () -> Missing.trader(SeesawMarket::isPresent));
        Sentences.promise(30, "Returns the board; NONE if the trader has no seat.", MarketBoundaryTest::boardsOfTraders);
        Sentences.promise(30, NO_TRADER, () -> Missing.trader(SeesawMarket::boardOf));
        Sentences.promise(31, "Returns the position; 0 if the trader has no seat.", MarketBoundaryTest::positionsOfTraders);
        Sentences.promise(31, NO_TRADER, () -> Missing.trader(SeesawMarket::positionOf));
        Sentences.promise(32, "whatever the coins of the bank and of the purse are.", MarketBoundaryTest::incomesWithoutCoins);
        Sentences.promise(32, "Returns the wage plus the height of the seat; 0 if the trader has no seat.",
                MarketBoundaryTest::incomes);
        Sentences.promise(32, NO_TRADER, () -> Missing.trader(SeesawMarket::incomeOf));
    }

    private static void richestAt() {
        Sentences.promise(33, "present traders with more coins come first, and of several with equally many coins the one with the "
                + "lowest number.", MarketBoundaryTest::theOrderOfPurses);
        Sentences.promise(33, "`place`: 0 for the first place", MarketBoundaryTest::theFirstPlace);
        Sentences.promise(33, "Returns the trader; NONE if there is no such place.", MarketBoundaryTest::placesThatAreNotThere);
    }

    private static void days() {
        Expect.same("a new object", Markets.first().day(), 0);
        SeesawMarket market = Markets.onDay(HEAD, 9990);
        Expect.same("after 333 times 30 days", market.day(), 9990);
        market.advance(9);
        Expect.same("the last day", market.day(), 9999);
        Markets.load(market, HEAD);
        Expect.same("a new market", market.day(), 0);
    }

    private static void banks() {
        Expect.same("an empty bank", Markets.of(HEAD).bank(), 0);
        SeesawMarket market = Markets.of("market 0 0 0 9 0 99999; trader a 1 9999 9; trader b 1 9999 9;");
        Expect.same("the fullest bank of a setup", market.bank(), 99999);
        market.advance(1);
        Expect.same("it may grow", market.bank(), 99999 + 2 * 9999);
    }

    private static void wages() {
        Expect.same("the least of a setup", Markets.of("market 0 0 0 9 0 0;").wage(), 0);
        SeesawMarket market = Markets.of("market 20 0 0 9 0 0;");
        Expect.same("the greatest of a setup", market.wage(), 20);
        market.setWage(0);
        Expect.same("the least", market.wage(), 0);
        market.setWage(20);
        Expect.same("the greatest", market.wage(), 20);
    }

    private static void basePrices() {
        Expect.same("the least", Markets.of("market 0 0 9 9 0 0;").basePrice(), 0);
        Expect.same("the greatest", Markets.of("market 0 99 9 9 0 0;").basePrice(), 99);
    }

    private static void retirementAges() {
        Expect.same("the least", Markets.of("market 0 0 0 1 0 0;").retirementAge(), 1);
        Expect.same("the greatest", Markets.of("market 0 0 0 999 0 0;").retirementAge(), 999);
    }

    private static void boardCounts() {
        for (int boards = 0; boards <= 5; boards++) {
            Expect.same("boards", Markets.of(HEAD + "board 1 1 1;".repeat(boards)).boardCount(), boards);
        }
        SeesawMarket market = Markets.of(HEAD + "board 1 1 1;".repeat(5));
        Markets.load(market, HEAD + "board 1 1 1;".repeat(6));
        Expect.same("a sixth one is refused", market.boardCount(), 5);
    }

    private static SeesawMarket fiveBoards() {
        return Markets.of(HEAD + "board 1 99 0; board 2 2 0; board 3 3 0; board 4 4 0; board 6 1 999;");
    }

    private static void armLengths() {
        Expect.same("the least on the first board", fiveBoards().armLength(0), 1);
        Expect.same("the greatest on the last board", fiveBoards().armLength(4), 6);
    }

    private static void stiffnesses() {
        Expect.same("the greatest on the first board", fiveBoards().stiffness(0), 99);
        Expect.same("the least on the last board", fiveBoards().stiffness(4), 1);
    }

    private static SeesawMarket withWeights(int left, int right) {
        return Markets.of(HEAD + "board 6 1 999; trader a " + left + " 0 0; trader b " + right + " 0 0; seat a 0 left 6;"
                + "seat b 0 right 6;");
    }

    private static void torques() {
        Expect.same("an empty board", fiveBoards().torque(4), 0);
        Expect.same("equal sides", withWeights(99, 99).torque(0), 0);
        Expect.same("a heavier right side", withWeights(1, 99).torque(0), 588);
        Expect.same("a heavier left side", withWeights(99, 1).torque(0), -588);
        Expect.same("a little heavier on the right", withWeights(98, 99).torque(0), 6);
        Expect.same("a little heavier on the left", withWeights(99, 98).torque(0), -6);
    }

    private static void tilts() {
        Expect.same("an empty board", fiveBoards().tilt(0), 0);
        Expect.same("the greatest", withWeights(1, 99).tilt(0), 9);
        Expect.same("the least", withWeights(99, 1).tilt(0), -9);
        Expect.same("just the greatest", withWeights(8, 10).tilt(0), 9);
        Expect.same("between", withWeights(9, 10).tilt(0), 6);
    }

    private static void balances() {
        Expect.same("an empty board", fiveBoards().isBalanced(0), true);
        Expect.same("equal sides", withWeights(99, 99).isBalanced(0), true);
        Expect.same("a heavier right side", withWeights(98, 99).isBalanced(0), false);
        Expect.same("a heavier left side", withWeights(99, 98).isBalanced(0), false);
        Expect.same("a tilt of 0 is not enough", Markets.of(HEAD + "board 1 99 9; trader a 1 0 0; seat a 0 left 1;")
                .isBalanced(0), false);
    }

    private static void owners() {
        SeesawMarket market = withWeights(1, 1);
        Expect.same("the first seat", market.seatOwner(0, -6), 0);
        Expect.same("the last seat", market.seatOwner(0, 6), 1);
        Expect.same("a free seat", market.seatOwner(0, -1), SeesawMarket.NONE);
        market.leaveSeat(0);
        Expect.same("a seat that was left", market.seatOwner(0, -6), SeesawMarket.NONE);
        market.undo();
        Expect.same("a seat after an undo", market.seatOwner(0, -6), 0);
    }

    private static void heights() {
        Expect.same("the least on the left", withWeights(99, 1).seatHeight(0, -6), -54);
        Expect.same("the greatest on the right", withWeights(99, 1).seatHeight(0, 6), 54);
        Expect.same("the greatest on the left", withWeights(1, 99).seatHeight(0, -6), 54);
        Expect.same("the least on the right", withWeights(1, 99).seatHeight(0, 6), -54);
        Expect.same("on an empty board", fiveBoards().seatHeight(4, -6), 0);
    }

    private static void prices() {
        Expect.same("a taken high seat", withWeights(1, 99).seatPrice(0, -6), 6 + 54);
        Expect.same("a free high seat", withWeights(1, 99).seatPrice(0, -5), 5 + 45);
        Expect.same("a taken low seat", withWeights(1, 99).seatPrice(0, 6), 6);
        Expect.same("a free low seat", withWeights(1, 99).seatPrice(0, 5), 5);
    }

    private static void theFreeSeatOfTheLeastTorque() {
        Expect.same("just balanced", Markets.of(HEAD + "board 6 1 999; trader a 10 0 0; seat a 0 left 3;").balancingSeat(0, 5), 6);
        Expect.same("too light: the farthest", Markets.of(HEAD + "board 6 1 999; trader a 99 0 0; seat a 0 left 6;")
                .balancingSeat(0, 1), 6);
        Expect.same("too heavy: the nearest", Markets.of(HEAD + "board 6 1 999; trader a 1 0 0; seat a 0 left 1;")
                .balancingSeat(0, 99), 1);
        Expect.same("the best one is taken", Markets.of(HEAD + "board 2 1 999; trader a 4 0 0; trader b 1 0 0; seat a 0 left 2;"
                + "seat b 0 right 1;").balancingSeat(0, 7), 2);
        Expect.same("beyond the limit, too", Markets.of(HEAD + "board 1 1 0;").balancingSeat(0, 99), -1);
    }

    private static void severalSeatsAndNone() {
        Expect.same("an empty board: the nearest two", Markets.of(HEAD + "board 6 1 9;").balancingSeat(0, 5), -1);
        Expect.same("-1 and 1", Markets.of(HEAD + "board 3 1 9; trader a 1 0 0; seat a 0 left 3;")
                .balancingSeat(0, 2), 1);
        Expect.same("15 - 10 and 15 - 20", Markets.of(HEAD + "board 3 1 99; trader a 5 0 0; seat a 0 right 3;")
                .balancingSeat(0, 10), -2);
        String full = HEAD + "board 1 1 9; board 1 1 9; trader a 1 0 0; trader b 1 0 0; seat a 0 left 1; seat b 0 right 1;";
        Expect.same("a full board", Markets.of(full).balancingSeat(0, 1), 0);
        Expect.same("the other board", Markets.of(full).balancingSeat(1, 1), -1);
    }

    private static void balancingWeights() {
        String setup = HEAD + "board 2 1 999; trader a 60 0 0; seat a 0 left 1;";
        Expect.same("the least weight", Markets.of(setup).balancingSeat(0, 1), 2);
        Expect.same("the greatest weight", Markets.of(setup).balancingSeat(0, 99), 1);
    }

    private static void balancingRefusesOtherWeights() {
        for (int weight : new int[] {0, 100, -1, Integer.MIN_VALUE, Integer.MAX_VALUE}) {
            Expect.noArgument("weight " + weight, Markets::rich, market -> market.balancingSeat(0, weight));
        }
    }

    private static SeesawMarket allRetired() {
        SeesawMarket market = Markets.after(Markets.withTraders(24), "days 30; days 30; days 30; days 30;");
        Markets.write(market, "new");
        return market;
    }

    private static void retiredOnesCount() {
        SeesawMarket market = allRetired();
        Expect.same("all have retired", market.richestAt(0), SeesawMarket.NONE);
        Expect.same("all count", market.traderCount(), 24);
        Expect.noState("no room for another", MarketBoundaryTest::allRetired, full -> full.join(1, 1));
    }

    private static void traderCounts() {
        Expect.same("none", Markets.of(HEAD).traderCount(), 0);
        Expect.same("one", Markets.of(Markets.withTraders(1)).traderCount(), 1);
        SeesawMarket market = Markets.of(Markets.withTraders(23));
        Expect.same("23", market.traderCount(), 23);
        Markets.join(market, "new", 1, 1);
        Expect.same("24", market.traderCount(), 24);
        market.undo();
        Expect.same("23 again", market.traderCount(), 23);
    }

    private static SeesawMarket named() {
        return Markets.of(HEAD + "trader z 1 1 1; trader abcdez 1 1 1;");
    }

    private static void firstAndLastLetters() {
        Expect.same("the only letter", named().nameLetter(0, 0), 'z');
        Expect.same("the first of six", named().nameLetter(1, 0), 'a');
        Expect.same("the last of six", named().nameLetter(1, 5), 'z');
    }

    private static void lettersThatAreNotThere() {
        Expect.same("behind one letter", named().nameLetter(0, 1), SeesawMarket.NONE);
        Expect.same("behind six letters", named().nameLetter(1, 6), SeesawMarket.NONE);
        for (int index : new int[] {-1, 7, 8, 32, 64, -8, Integer.MIN_VALUE, Integer.MAX_VALUE}) {
            Expect.same("letter " + index, named().nameLetter(1, index), SeesawMarket.NONE);
        }
    }

    private static void weights() {
        Expect.same("the least of a setup", withWeights(1, 99).weightOf(0), 1);
        Expect.same("the greatest of a setup", withWeights(1, 99).weightOf(1), 99);
        SeesawMarket market = Markets.of(HEAD + "board 2 99 999; trader a 50 999 0; trader b 50 999 0; seat a 0 left 1;"
                + "seat b 0 left 2;");
        market.sellWeight(0, 1, 49);
        Expect.same("the least after a sale", market.weightOf(0), 1);
        Expect.same("the greatest after a sale", market.weightOf(1), 99);
    }

    private static void purses() {
        SeesawMarket market = Markets.of("market 20 0 0 99 0 99; board 1 99 99; trader a 1 0 0; trader b 1 9999 0;"
                + "seat b 0 left 1;");
        Expect.same("an empty purse", market.purseOf(0), 0);
        Expect.same("the fullest of a setup", market.purseOf(1), 9999);
        market.advance(1);
        Expect.same("it may grow", market.purseOf(1), 10019);
        market.advance(30);
        Expect.same("until the bank is empty", market.purseOf(1), 9999 + 99);
    }

    private static void ages() {
        SeesawMarket market = Markets.of("market 0 0 0 999 0 0; trader a 1 1 0; trader b 1 1 999;");
        Expect.same("the least of a setup", market.ageOf(0), 0);
        Expect.same("the greatest of a setup", market.ageOf(1), 999);
        market.advance(2);
        Expect.same("two days later", market.ageOf(0), 2);
        Expect.same("the greatest of all", market.ageOf(1), 1000);
    }

    private static void presence() {
        SeesawMarket market = Markets.first();
        market.advance(2);
        Expect.same("at the retirement age", market.isPresent(Markets.CAT), true);
        market.advance(1);
        Expect.same("retired", market.isPresent(Markets.CAT), false);
        Expect.same("without a seat", market.isPresent(Markets.DAN), true);
    }

    private static SeesawMarket seated() {
        return Markets.of("market 3 0 0 1 0 0;" + "board 6 1 999;".repeat(5) + "trader a 1 0 1; trader b 1 0 0; trader c 1 0 0;"
                + "seat a 0 left 6; seat b 4 right 6;");
    }

    private static void boardsOfTraders() {
        SeesawMarket market = seated();
        Expect.same("the first board", market.boardOf(0), 0);
        Expect.same("the last board", market.boardOf(1), 4);
        Expect.same("no seat", market.boardOf(2), SeesawMarket.NONE);
        market.advance(1);
        Expect.same("retired", market.boardOf(0), SeesawMarket.NONE);
    }

    private static void positionsOfTraders() {
        SeesawMarket market = seated();
        Expect.same("the first seat", market.positionOf(0), -6);
        Expect.same("the last seat", market.positionOf(1), 6);
        Expect.same("no seat", market.positionOf(2), 0);
        market.advance(1);
        Expect.same("retired", market.positionOf(0), 0);
    }

    private static void incomesWithoutCoins() {
        SeesawMarket market = withWeights(1, 99);
        Expect.same("the bank is empty", market.bank(), 0);
        Expect.same("the purses are empty", market.purseOf(1), 0);
        Expect.same("a positive income", market.incomeOf(0), 54);
        Expect.same("a negative income", market.incomeOf(1), -54);
    }

    private static void incomes() {
        SeesawMarket market = seated();
        Expect.same("the wage less the height", market.incomeOf(1), 3 - 36);
        Expect.same("no seat", market.incomeOf(2), 0);
        market.advance(1);
        Expect.same("retired", market.incomeOf(0), 0);
        Expect.same("a wage of 0 on a level seat", withWeights(5, 5).incomeOf(0), 0);
        SeesawMarket first = Markets.first();
        first.setWage(20);
        Expect.same("the greatest wage", first.incomeOf(Markets.ANN), 20);
        Expect.same("no seat at the greatest wage", first.incomeOf(Markets.DAN), 0);
    }

    private static SeesawMarket purseOrder() {
        return Markets.of("market 0 0 0 9 0 0; trader a 1 5 0; trader b 1 6 9; trader c 1 6 0; trader d 1 5 0; trader e 1 0 0;");
    }

    private static String order(SeesawMarket market) {
        StringBuilder order = new StringBuilder();
        for (int place = 0; market.richestAt(place) != SeesawMarket.NONE; place++) {
            order.append(market.richestAt(place)).append(' ');
        }
        return order.toString();
    }

    private static void theOrderOfPurses() {
        Expect.same("equal purses", order(purseOrder()), "1 2 0 3 4 ");
        SeesawMarket market = purseOrder();
        market.advance(1);
        Expect.same("without the retired one", order(market), "2 0 3 4 ");
        Expect.same("24 equal purses", order(Markets.of(Markets.withTraders(24))),
                "0 1 2 3 4 5 6 7 8 9 10 11 12 13 14 15 16 17 18 19 20 21 22 23 ");
    }

    private static void theFirstPlace() {
        Expect.same("the richest", purseOrder().richestAt(0), 1);
        Expect.same("of equal ones the lowest number", Markets.of(Markets.withTraders(2)).richestAt(0), 0);
    }

    private static void placesThatAreNotThere() {
        Expect.same("the last place", purseOrder().richestAt(4), 4);
        for (int place : new int[] {-1, 5, 24, Integer.MIN_VALUE, Integer.MAX_VALUE}) {
            Expect.same("place " + place, purseOrder().richestAt(place), SeesawMarket.NONE);
        }
        Expect.same("nobody", Markets.of(HEAD).richestAt(0), SeesawMarket.NONE);
        SeesawMarket market = purseOrder();
        market.advance(1);
        Expect.same("the place of a retired one", market.richestAt(4), SeesawMarket.NONE);
        market.advance(30);
        Expect.same("all have retired", market.richestAt(0), SeesawMarket.NONE);
    }
}
