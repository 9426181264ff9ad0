/** The boundary cases that the promises 34 to 51 name: reasons, prices, statistics, events and forecasts. */
public final class AnswerBoundaryTest {
    private static final String HEAD = "market 0 0 0 99 0 0;";
    private static final String NO_TRADER = "Throws `IndexOutOfBoundsException` if there is no such trader";
    private static final String NO_DAYS = "Throws `IllegalArgumentException` if days is out of range";
    private static final int ANN = Markets.ANN;
    private static final int BOB = Markets.BOB;
    private static final int CAT = Markets.CAT;
    private static final int DAN = Markets.DAN;

    public static void main(String[] args) {
        reasonsAgainstSeats();
        reasonsAgainstSales();
        reasonsAgainstSwaps();
        unitPricesAndBestSeats();
        statistics();
        events();
        forecasts();
        Expect.end();
    }

    private static void reasonsAgainstSeats() {
        Sentences.promise(34, "Returns the first reason that applies, in this order: RETIRED, SEAT_TAKEN (also by the trader "
                + "itself), TOO_POOR (the purse has fewer coins than the price of the seat), WOULD_TIP (the board would tip if the "
                + "trader sat there, and no longer on its present seat); POSSIBLE if none applies.",
                AnswerBoundaryTest::theFirstReasonAgainstASeat);
        Sentences.promise(34, "SEAT_TAKEN (also by the trader itself)", AnswerBoundaryTest::seatsTakenByItself);
        Sentences.promise(34, "TOO_POOR (the purse has fewer coins than the price of the seat)", AnswerBoundaryTest::justThePrice);
        Sentences.promise(34, "WOULD_TIP (the board would tip if the trader sat there, and no longer on its present seat)",
                AnswerBoundaryTest::justTheLimitOfASeat);
        Sentences.promise(34, "Throws `IndexOutOfBoundsException` if there is no such trader, board or seat", () -> {
            Missing.trader((market, trader) -> market.reasonAgainstSeat(trader, 0, 1));
            Missing.boardOrSeat((market, board, position) -> market.reasonAgainstSeat(DAN, board, position));
        });
    }

    private static void reasonsAgainstSales() {
        Sentences.promise(35, "Returns the first reason that applies, in this order: NO_SEAT (the seller or the buyer has no seat), "
                + "DIFFERENT_BOARDS, WRONG_WEIGHT (the seller would have a weight of less than 1, or the buyer of more than 99), "
                + "TOO_POOR (the purse of the buyer has fewer coins than units times the unit price), WOULD_TIP (the board would "
                + "tip); POSSIBLE if none applies.", AnswerBoundaryTest::theFirstReasonAgainstASale);
        Sentences.promise(35, "WRONG_WEIGHT (the seller would have a weight of less than 1, or the buyer of more than 99)",
                AnswerBoundaryTest::justTheWeights);
        Sentences.promise(35, "TOO_POOR (the purse of the buyer has fewer coins than units times the unit price)",
                AnswerBoundaryTest::justTheCoinsOfASale);
        Sentences.promise(35, "WOULD_TIP (the board would tip)", AnswerBoundaryTest::justTheLimitOfASale);
        Sentences.promise(35, "`units`: 1 to 50", AnswerBoundaryTest::leastAndMostUnits);
        Sentences.promise(35, NO_TRADER, () -> {
            Missing.trader((market, trader) -> market.reasonAgainstSale(trader, ANN, 1));
            Missing.trader((market, trader) -> market.reasonAgainstSale(ANN, trader, 1));
        });
        Sentences.promise(35, "Throws `IllegalArgumentException` if the seller is the buyer, or units is out of range",
                AnswerBoundaryTest::salesThatAreNone);
    }

    private static void reasonsAgainstSwaps() {
        Sentences.promise(36, "Returns the first reason that applies, in this order: NO_SEAT (one of them has no seat), TOO_POOR "
                + "(the trader who would get the higher seat has fewer coins than the difference of the heights), WOULD_TIP (a "
                + "board of one of them would tip); POSSIBLE if none applies.", AnswerBoundaryTest::theFirstReasonAgainstASwap);
        Sentences.promise(36, "TOO_POOR (the trader who would get the higher seat has fewer coins than the difference of the "
                + "heights)", AnswerBoundaryTest::justTheCoinsOfASwap);
        Sentences.promise(36, "WOULD_TIP (a board of one of them would tip)", AnswerBoundaryTest::justTheLimitsOfASwap);
        Sentences.promise(36, NO_TRADER, () -> {
            Missing.trader((market, trader) -> market.reasonAgainstSwap(trader, ANN));
            Missing.trader((market, trader) -> market.reasonAgainstSwap(ANN, trader));
        });
        Sentences.promise(36, "Throws `IllegalArgumentException` if both are the same trader", () -> {
            Expect.noArgument("with a seat", Markets::rich, market -> market.reasonAgainstSwap(ANN, ANN));
            Expect.noArgument("without a seat", Markets::rich, market -> market.reasonAgainstSwap(BOB, BOB));
        });
    }

    private static void unitPricesAndBestSeats() {
        Sentences.promise(37, "Returns the unit price, whether they sit on the same board or not.",
                AnswerBoundaryTest::unitPricesOnOneBoardAndTwo);
        Sentences.promise(37, NO_TRADER, () -> {
            Missing.trader((market, trader) -> market.weightUnitPrice(trader, BOB));
            Missing.trader((market, trader) -> market.weightUnitPrice(BOB, trader));
        });
        Sentences.promise(37, "Throws `IllegalStateException` if the seller or the buyer has no seat",
                AnswerBoundaryTest::noUnitPriceWithoutASeat);
        Sentences.promise(38, "Finds the seat of a board that a trader can buy and on which its income would be greatest after the "
                + "purchase.", AnswerBoundaryTest::theGreatestIncomeOfWhatItCanBuy);
        Sentences.promise(38, "of several such seats the smallest position; 0 if the trader can buy none.",
                AnswerBoundaryTest::severalBestSeatsAndNone);
        Sentences.promise(38, "Throws `IndexOutOfBoundsException` if there is no such trader or board", () -> {
            Missing.trader((market, trader) -> market.bestSeat(trader, 0));
            Missing.board((market, board) -> market.bestSeat(DAN, board));
        });
    }

    private static void statistics() {
        Sentences.promise(39, "Returns the number of purchases.", AnswerBoundaryTest::purchases);
        Sentences.promise(40, "Returns the number of units.", AnswerBoundaryTest::unitsSold);
        Sentences.promise(41, "Returns the number of falls.", AnswerBoundaryTest::falls);
        Sentences.promise(42, "Returns the sum of the coins divided by the number of present traders, both converted to double; 0.0 "
                + "if there are none.", AnswerBoundaryTest::averages);
        Sentences.promise(43, "Returns the number of taken seats divided by the number of all seats, both converted to float; 0.0f "
                + "if there are no seats.", AnswerBoundaryTest::occupancies);
        Sentences.promise(44, "The result is always 0.", AnswerBoundaryTest::neverAContradiction);
    }

    private static void events() {
        Sentences.promise(45, "`index`: 0 for the latest event", AnswerBoundaryTest::theLatestEvent);
        Sentences.promise(45, "Returns FALL or RETIREMENT; NONE if there is no such event.", AnswerBoundaryTest::kindsOfEvents);
        Sentences.promise(46, "`index`: 0 for the latest event", AnswerBoundaryTest::theLatestEvent);
        Sentences.promise(46, "Returns the trader; NONE if there is no such event.", AnswerBoundaryTest::tradersOfEvents);
        Sentences.promise(47, "`index`: 0 for the latest event", AnswerBoundaryTest::theLatestEvent);
        Sentences.promise(47, "Returns the day; NONE if there is no such event.", AnswerBoundaryTest::daysOfEvents);
    }

    private static void forecasts() {
        Sentences.term("Forecasts change nothing.", AnswerBoundaryTest::forecastsChangeNothing);
        Sentences.term("They assume that only days pass, and go beyond day 9999.", AnswerBoundaryTest::forecastsGoBeyondDay9999);
        Sentences.promise(48, "`days`: 0 to 100", AnswerBoundaryTest::pursesAfterNoneAndMostDays);
        Sentences.promise(48, NO_TRADER, () -> Missing.trader((market, trader) -> market.purseAfter(trader, 1)));
        Sentences.promise(48, NO_DAYS, AnswerBoundaryTest::pursesAfterOtherDays);
        Sentences.promise(49, "`days`: 0 to 100", AnswerBoundaryTest::banksAfterNoneAndMostDays);
        Sentences.promise(49, NO_DAYS, AnswerBoundaryTest::banksAfterOtherDays);
        Sentences.promise(50, "Returns the least number of days, 1 to 100, after which the trader has fallen off; NONE if it will not "
                + "within 100 days.", AnswerBoundaryTest::fallsWithinAHundredDays);
        Sentences.promise(50, NO_TRADER, () -> Missing.trader(SeesawMarket::daysUntilFall));
        Sentences.promise(51, "Returns the number of days; 0 if the trader has retired.", AnswerBoundaryTest::daysToRetirement);
        Sentences.promise(51, NO_TRADER, () -> Missing.trader(SeesawMarket::daysUntilRetirement));
    }

    private static void theFirstReasonAgainstASeat() {
        // On the seat of s one would pay 6, on seat -2 7; beyond a torque of 4 the board tips.
        SeesawMarket market = Markets.of("market 1 5 0 9 0 0; board 2 1 4; trader old 9 0 9; trader poor 9 5 0; trader heavy 9 7 0;"
                + "trader light 1 7 0; trader s 1 0 0; seat s 0 left 1;");
        market.advance(1);
        Expect.same("retired, taken, poor and tipping", market.reasonAgainstSeat(0, 0, -1), SeesawMarket.RETIRED);
        Expect.same("retired, poor and tipping", market.reasonAgainstSeat(0, 0, -2), SeesawMarket.RETIRED);
        Expect.same("taken, poor and tipping", market.reasonAgainstSeat(1, 0, -1), SeesawMarket.SEAT_TAKEN);
        Expect.same("taken and tipping", market.reasonAgainstSeat(2, 0, -1), SeesawMarket.SEAT_TAKEN);
        Expect.same("taken", market.reasonAgainstSeat(3, 0, -1), SeesawMarket.SEAT_TAKEN);
        Expect.same("poor and tipping", market.reasonAgainstSeat(1, 0, -2), SeesawMarket.TOO_POOR);
        Expect.same("tipping", market.reasonAgainstSeat(2, 0, -2), SeesawMarket.WOULD_TIP);
        Expect.same("none", market.reasonAgainstSeat(3, 0, -2), SeesawMarket.POSSIBLE);
    }

    private static void seatsTakenByItself() {
        SeesawMarket market = Markets.first();
        Expect.same("rich enough", market.reasonAgainstSeat(ANN, 0, -2), SeesawMarket.SEAT_TAKEN);
        market.leaveSeat(ANN);
        Expect.same("left", market.reasonAgainstSeat(ANN, 0, -2), SeesawMarket.POSSIBLE);
    }

    private static void justThePrice() {
        // On an empty board seat 3 costs 5 + 3; with b on seat -1 at a tilt of -1 it costs 5 + 3 + 3.
        for (int coins = 7; coins <= 12; coins++) {
            String level = "market 0 5 0 99 0 0; board 3 1 999; trader a 1 " + coins + " 0; trader b 1 0 0;";
            Expect.same(coins + " coins for 8", Markets.of(level).reasonAgainstSeat(0, 0, 3),
                    coins < 8 ? SeesawMarket.TOO_POOR : SeesawMarket.POSSIBLE);
            Expect.same(coins + " coins for 11", Markets.of(level + "seat b 0 left 1;").reasonAgainstSeat(0, 0, 3),
                    coins < 11 ? SeesawMarket.TOO_POOR : SeesawMarket.POSSIBLE);
        }
        Expect.same("an empty purse", Markets.of(HEAD + "board 1 1 9; trader a 1 0 0;").reasonAgainstSeat(0, 0, 1),
                SeesawMarket.TOO_POOR);
    }

    private static int seatReason(int limit, int position) {
        return Markets.of(HEAD + "board 3 99 " + limit + "; trader a 5 9 0; trader b 4 9 0; seat a 0 left 1; seat b 0 right 1;")
                .reasonAgainstSeat(0, 0, position);
    }

    private static void justTheLimitOfASeat() {
        // Without a on its present seat the torque is 4.
        Expect.same("a torque of 14 and a limit of 14", seatReason(14, 2), SeesawMarket.POSSIBLE);
        Expect.same("a torque of 14 and a limit of 13", seatReason(13, 2), SeesawMarket.WOULD_TIP);
        Expect.same("a torque of -6 and a limit of 6", seatReason(6, -2), SeesawMarket.POSSIBLE);
        Expect.same("a torque of -6 and a limit of 5", seatReason(5, -2), SeesawMarket.WOULD_TIP);
        String two = HEAD + "board 1 99 0; board 1 99 %d; trader a 5 9 0; seat a 0 left 1;";
        Expect.same("to another board", Markets.of(String.format(two, 5)).reasonAgainstSeat(0, 1, 1), SeesawMarket.POSSIBLE);
        Expect.same("to another board that tips", Markets.of(String.format(two, 4)).reasonAgainstSeat(0, 1, 1),
                SeesawMarket.WOULD_TIP);
        Expect.same("the limit 0 on an empty board", Markets.of(HEAD + "board 1 9 0; trader a 1 9 0;").reasonAgainstSeat(0, 0, 1),
                SeesawMarket.WOULD_TIP);
    }

    private static void theFirstReasonAgainstASale() {
        SeesawMarket market = Markets.of("market 0 0 5 99 0 0; board 2 99 10; board 2 99 10; trader a 10 99 0; trader b 10 40 0;"
                + "trader c 10 0 0; trader d 10 0 0; trader e 10 0 0; seat a 0 left 1; seat b 0 right 1; seat c 1 left 1;");
        Expect.same("the seller has no seat", market.reasonAgainstSale(3, 0, 50), SeesawMarket.NO_SEAT);
        Expect.same("the buyer has no seat", market.reasonAgainstSale(0, 3, 50), SeesawMarket.NO_SEAT);
        Expect.same("both have no seat", market.reasonAgainstSale(3, 4, 50), SeesawMarket.NO_SEAT);
        Expect.same("different boards, too much weight and poor", market.reasonAgainstSale(0, 2, 50),
                SeesawMarket.DIFFERENT_BOARDS);
        Expect.same("different boards", market.reasonAgainstSale(2, 0, 1), SeesawMarket.DIFFERENT_BOARDS);
        Expect.same("too much weight, poor and tipping", market.reasonAgainstSale(0, 1, 10), SeesawMarket.WRONG_WEIGHT);
        Expect.same("poor and tipping", market.reasonAgainstSale(0, 1, 9), SeesawMarket.TOO_POOR);
        Expect.same("tipping", market.reasonAgainstSale(0, 1, 8), SeesawMarket.WOULD_TIP);
        Expect.same("none", market.reasonAgainstSale(0, 1, 5), SeesawMarket.POSSIBLE);
    }

    private static int weightReason(int seller, int buyer, int units) {
        return Markets.of(HEAD + "board 1 99 999; trader a " + seller + " 0 0; trader b " + buyer + " 99 0; seat a 0 left 1;"
                + "seat b 0 right 1;").reasonAgainstSale(0, 1, units);
    }

    private static void justTheWeights() {
        Expect.same("a weight of 1 is left", weightReason(10, 1, 9), SeesawMarket.POSSIBLE);
        Expect.same("a weight of 0 would be left", weightReason(10, 1, 10), SeesawMarket.WRONG_WEIGHT);
        Expect.same("a weight of -1 would be left", weightReason(10, 1, 11), SeesawMarket.WRONG_WEIGHT);
        Expect.same("nothing to sell", weightReason(1, 1, 1), SeesawMarket.WRONG_WEIGHT);
        Expect.same("a weight of 99", weightReason(50, 90, 9), SeesawMarket.POSSIBLE);
        Expect.same("a weight of 100", weightReason(50, 90, 10), SeesawMarket.WRONG_WEIGHT);
        Expect.same("no room", weightReason(50, 99, 1), SeesawMarket.WRONG_WEIGHT);
        Expect.same("both at their limits", weightReason(10, 90, 9), SeesawMarket.POSSIBLE);
    }

    private static int coinReason(int weightPrice, int coins) {
        return Markets.of("market 0 0 " + weightPrice + " 99 0 0; board 1 99 999; trader a 10 0 0; trader b 10 " + coins
                + " 0; seat a 0 left 1; seat b 0 right 1;").reasonAgainstSale(0, 1, 3);
    }

    private static void justTheCoinsOfASale() {
        Expect.same("11 coins for 3 times 4", coinReason(4, 11), SeesawMarket.TOO_POOR);
        Expect.same("12 coins for 3 times 4", coinReason(4, 12), SeesawMarket.POSSIBLE);
        Expect.same("2 coins for 3 times at least 1", coinReason(0, 2), SeesawMarket.TOO_POOR);
        Expect.same("3 coins for 3 times at least 1", coinReason(0, 3), SeesawMarket.POSSIBLE);
        Expect.same("an empty purse", coinReason(0, 0), SeesawMarket.TOO_POOR);
    }

    private static int limitReason(int limit, int seller, int units) {
        // The torque is 10.
        return Markets.of(HEAD + "board 2 99 " + limit + "; trader a 10 99 0; trader b 10 99 0; seat a 0 left 1; seat b 0 right 2;")
                .reasonAgainstSale(seller, 1 - seller, units);
    }

    private static void justTheLimitOfASale() {
        Expect.same("a torque of 16 and a limit of 16", limitReason(16, 0, 2), SeesawMarket.POSSIBLE);
        Expect.same("a torque of 16 and a limit of 15", limitReason(15, 0, 2), SeesawMarket.WOULD_TIP);
        Expect.same("a torque of -17 and a limit of 17", limitReason(17, 1, 9), SeesawMarket.POSSIBLE);
        Expect.same("a torque of -17 and a limit of 16", limitReason(16, 1, 9), SeesawMarket.WOULD_TIP);
        Expect.same("a torque of 1 and a limit of 1", limitReason(1, 1, 3), SeesawMarket.POSSIBLE);
        Expect.same("a torque of -2 and a limit of 1", limitReason(1, 1, 4), SeesawMarket.WOULD_TIP);
    }

    private static void leastAndMostUnits() {
        Expect.same("one", weightReason(2, 1, 1), SeesawMarket.POSSIBLE);
        Expect.same("fifty", weightReason(51, 49, 50), SeesawMarket.POSSIBLE);
    }

    private static void salesThatAreNone() {
        Expect.noArgument("to itself", Markets::rich, market -> market.reasonAgainstSale(ANN, ANN, 1));
        Expect.noArgument("to itself without a seat", Markets::rich, market -> market.reasonAgainstSale(BOB, BOB, 1));
        for (int units : new int[] {0, 51, -1, Integer.MIN_VALUE, Integer.MAX_VALUE}) {
            Expect.noArgument(units + " units", Markets::rich, market -> market.reasonAgainstSale(ANN, DAN, units));
            Expect.noArgument(units + " units without a seat", Markets::rich, market -> market.reasonAgainstSale(ANN, BOB, units));
        }
    }

    /** The torque is 20, the tilt 9, the heights -27 and 18; swapped the torque would be -10. */
    private static SeesawMarket steep(int coinsOfLow, int coinsOfHigh, int limit) {
        return Markets.of(HEAD + "board 3 2 " + limit + "; trader low 8 " + coinsOfLow + " 0; trader high 2 " + coinsOfHigh
                + " 0; trader none 1 0 0; seat low 0 right 3; seat high 0 left 2;");
    }

    private static void theFirstReasonAgainstASwap() {
        Expect.same("the first has no seat", steep(0, 0, 9).reasonAgainstSwap(2, 0), SeesawMarket.NO_SEAT);
        Expect.same("the other has no seat", steep(0, 0, 9).reasonAgainstSwap(0, 2), SeesawMarket.NO_SEAT);
        Expect.same("poor and tipping", steep(44, 0, 9).reasonAgainstSwap(0, 1), SeesawMarket.TOO_POOR);
        Expect.same("tipping", steep(45, 0, 9).reasonAgainstSwap(0, 1), SeesawMarket.WOULD_TIP);
        Expect.same("none", steep(45, 0, 10).reasonAgainstSwap(0, 1), SeesawMarket.POSSIBLE);
    }

    private static void justTheCoinsOfASwap() {
        Expect.same("44 coins for 45", steep(44, 0, 99).reasonAgainstSwap(0, 1), SeesawMarket.TOO_POOR);
        Expect.same("44 coins for 45, the other way round", steep(44, 0, 99).reasonAgainstSwap(1, 0), SeesawMarket.TOO_POOR);
        Expect.same("45 coins for 45", steep(45, 0, 99).reasonAgainstSwap(0, 1), SeesawMarket.POSSIBLE);
        Expect.same("45 coins for 45, the other way round", steep(45, 0, 99).reasonAgainstSwap(1, 0), SeesawMarket.POSSIBLE);
        Expect.same("the higher one need not pay", steep(0, 999, 99).reasonAgainstSwap(0, 1), SeesawMarket.TOO_POOR);
        Expect.same("level seats and empty purses", Markets.of(HEAD + "board 1 1 9; trader a 1 0 0; trader b 1 0 0;"
                + "seat a 0 left 1; seat b 0 right 1;").reasonAgainstSwap(0, 1), SeesawMarket.POSSIBLE);
    }

    private static int swapReason(int firstLimit, int secondLimit) {
        // Swapped the torques would be -21 and 2.
        SeesawMarket market = Markets.of(HEAD + "board 3 99 " + firstLimit + "; board 3 99 " + secondLimit
                + "; trader a 2 9 0; trader b 7 9 0; seat a 0 left 3; seat b 1 right 1;");
        Expect.same("the other way round", market.reasonAgainstSwap(1, 0), market.reasonAgainstSwap(0, 1));
        return market.reasonAgainstSwap(0, 1);
    }

    private static void justTheLimitsOfASwap() {
        Expect.same("a torque of -10 and a limit of 10", steep(45, 0, 10).reasonAgainstSwap(0, 1), SeesawMarket.POSSIBLE);
        Expect.same("a torque of -10 and a limit of 9", steep(45, 0, 9).reasonAgainstSwap(0, 1), SeesawMarket.WOULD_TIP);
        Expect.same("both boards at their limits", swapReason(21, 2), SeesawMarket.POSSIBLE);
        Expect.same("the first board beyond", swapReason(20, 2), SeesawMarket.WOULD_TIP);
        Expect.same("the second board beyond", swapReason(21, 1), SeesawMarket.WOULD_TIP);
        Expect.same("both boards beyond", swapReason(20, 1), SeesawMarket.WOULD_TIP);
    }

    private static void unitPricesOnOneBoardAndTwo() {
        SeesawMarket market = Markets.first();
        Expect.same("on one board", market.weightUnitPrice(ANN, BOB), 2);
        Expect.same("to a lower seat of another board", market.weightUnitPrice(ANN, CAT), 1);
        Expect.same("to a higher seat of another board", market.weightUnitPrice(CAT, ANN), 3);
        Expect.same("to itself", market.weightUnitPrice(CAT, CAT), 2);
    }

    private static void noUnitPriceWithoutASeat() {
        Expect.noState("the seller", Markets::rich, market -> market.weightUnitPrice(BOB, ANN));
        Expect.noState("the buyer", Markets::rich, market -> market.weightUnitPrice(ANN, BOB));
        Expect.noState("both", Markets::rich, market -> market.weightUnitPrice(BOB, BOB));
        Expect.noState("retired", () -> Markets.after(Markets.FIRST_SETUP, "days 3;"), market -> market.weightUnitPrice(CAT, ANN));
    }

    private static void theGreatestIncomeOfWhatItCanBuy() {
        // The tilts after the purchase are 7 at -3, 8 at -2 and 9 at -1; now it is 9, and the seats cost 30, 20 and 10.
        String setup = HEAD + "board 3 4 %d; trader a 4 %d 0; trader b 40 0 0; seat b 0 right 1;";
        Expect.same("rich", Markets.of(String.format(setup, 999, 99)).bestSeat(0, 0), -3);
        Expect.same("just rich enough", Markets.of(String.format(setup, 999, 30)).bestSeat(0, 0), -3);
        Expect.same("not rich enough", Markets.of(String.format(setup, 999, 29)).bestSeat(0, 0), -2);
        Expect.same("a seat of 10", Markets.of(String.format(setup, 999, 10)).bestSeat(0, 0), -1);
        Expect.same("low seats only", Markets.of(String.format(setup, 999, 9)).bestSeat(0, 0), 2);
        Expect.same("a limit of 28", Markets.of(String.format(setup, 28, 99)).bestSeat(0, 0), -3);
        Expect.same("a limit of 27", Markets.of(String.format(setup, 27, 99)).bestSeat(0, 0), 0);
    }

    private static void severalBestSeatsAndNone() {
        Expect.same("level seats", Markets.of(HEAD + "board 6 99 999; trader a 9 9 0;").bestSeat(0, 0), -6);
        Expect.same("two equal ones", Markets.of(HEAD + "board 1 1 999; trader a 9 9 0;").bestSeat(0, 0), -1);
        Expect.same("too poor", Markets.of(HEAD + "board 6 1 999; trader a 9 0 0;").bestSeat(0, 0), 0);
        Expect.same("each seat tips", Markets.of(HEAD + "board 6 1 8; trader a 9 9 0;").bestSeat(0, 0), 0);
        String full = HEAD + "board 1 1 99; trader a 1 9 0; trader b 1 9 0; trader c 1 9 99; seat a 0 left 1; seat b 0 right 1;";
        Expect.same("a full board", Markets.of(full).bestSeat(2, 0), 0);
        Expect.same("a full board of its own", Markets.of(full).bestSeat(0, 0), 0);
        Expect.same("retired", Markets.after(full, "leave a; days 1;").bestSeat(2, 0), 0);
    }

    private static void purchases() {
        SeesawMarket market = Markets.first();
        Expect.same("none at first", market.seatsSold(), 0);
        market.buySeat(DAN, 0, 1);
        Expect.same("one", market.seatsSold(), 1);
        Expect.noState("a purchase that is refused", Markets::rich, rich -> rich.buySeat(DAN, 0, 1));
        market.undo();
        Expect.same("none after an undo", market.seatsSold(), 0);
    }

    private static void unitsSold() {
        SeesawMarket market = Markets.first();
        Expect.same("none at first", market.weightSold(), 0);
        market.sellWeight(BOB, ANN, 1);
        Expect.same("one", market.weightSold(), 1);
        market.sellWeight(ANN, BOB, 3);
        Expect.same("there and back counts twice", market.weightSold(), 4);
        market.undo();
        market.undo();
        Expect.same("none after two undos", market.weightSold(), 0);
    }

    private static void falls() {
        SeesawMarket market = Markets.of(HEAD + "board 1 1 0; trader a 1 0 0; trader b 1 0 98; seat a 0 left 1; seat b 0 right 1;");
        Expect.same("none at first", market.fallCount(), 0);
        market.advance(1);
        Expect.same("none while it is balanced", market.fallCount(), 0);
        market.advance(30);
        Expect.same("one when the other retired", market.fallCount(), 1);
        market.undo();
        Expect.same("none after an undo", market.fallCount(), 0);
    }

    private static void averages() {
        Expect.sameDouble("no trader", Markets.of(HEAD).averagePurse(), 0.0);
        SeesawMarket market = Markets.of("market 0 0 0 9 0 0; trader a 1 9999 0; trader b 1 0 0; trader c 1 1 0; trader d 1 7 9;");
        Expect.sameDouble("four", market.averagePurse(), 10007.0 / 4.0);
        market.advance(1);
        Expect.sameDouble("three", market.averagePurse(), 10000.0 / 3.0);
        market.advance(30);
        Expect.sameDouble("all have retired", market.averagePurse(), 0.0);
        Expect.sameDouble("an empty purse", Markets.of(HEAD + "trader a 1 0 0;").averagePurse(), 0.0);
        SeesawMarket full = Markets.of(Markets.withTraders(24));
        Expect.sameDouble("24", full.averagePurse(), 9.0);
        Markets.load(full, Markets.FIRST_SETUP);
        Expect.sameDouble("four behind 24", full.averagePurse(), 107.0 / 4.0);
    }

    private static void occupancies() {
        Expect.sameFloat("no board", Markets.of(HEAD + "trader a 1 0 0;").occupancy(), 0.0f);
        String setup = HEAD + "board 1 1 9; board 2 1 9; trader a 1 0 0; trader b 1 0 0;";
        Expect.sameFloat("no seat is taken", Markets.of(setup).occupancy(), 0.0f);
        Expect.sameFloat("one of six", Markets.of(setup + "seat a 0 left 1;").occupancy(), 1.0f / 6.0f);
        Expect.sameFloat("two of six", Markets.of(setup + "seat a 0 left 1; seat b 1 left 1;").occupancy(), 2.0f / 6.0f);
        Expect.sameFloat("all", Markets.of(HEAD + "board 1 1 9; trader a 1 0 0; trader b 1 0 0; seat a 0 left 1; seat b 0 right 1;")
                .occupancy(), 1.0f);
        Expect.sameFloat("one of sixty", Markets.of(HEAD + "board 6 1 9;".repeat(5) + "trader a 1 0 0; seat a 4 right 6;")
                .occupancy(), 1.0f / 60.0f);
    }

    private static void neverAContradiction() {
        Expect.same("a new object", Markets.first().contradictions(), 0);
        Expect.same("nothing but a bank", Markets.of("market 0 0 0 99 0 99999;").contradictions(), 0);
        Expect.same("a board that tips", Markets.of(HEAD + "board 6 1 0; trader a 99 9999 0; seat a 0 left 6;").contradictions(), 0);
        Expect.same("after changes", Markets.rich().contradictions(), 0);
        SeesawMarket market = Markets.rich();
        Markets.join(market, "eve", 99, 9999);
        Expect.same("after a join", market.contradictions(), 0);
        for (int round = 0; round < 3; round++) {
            market.advance(30);
            Expect.same("after falls and retirements", market.contradictions(), 0);
        }
        market.undo();
        Expect.same("after an undo", market.contradictions(), 0);
        market.restore(0);
        Expect.same("after a restore", market.contradictions(), 0);
    }

    /** On day 1 b falls, on day 2 a retires. */
    private static SeesawMarket withEvents(int days) {
        SeesawMarket market = Markets.of("market 0 0 0 9 0 0; board 2 99 1; trader a 1 1 8; trader b 1 1 0; seat a 0 left 1;"
                + "seat b 0 left 2;");
        if (days > 0) {
            market.advance(days);
        }
        return market;
    }

    private static void theLatestEvent() {
        Expect.same("kind on day 1", withEvents(1).eventKind(0), SeesawMarket.FALL);
        Expect.same("trader on day 1", withEvents(1).eventTrader(0), 1);
        Expect.same("day on day 1", withEvents(1).eventDay(0), 1);
        Expect.same("kind on day 2", withEvents(2).eventKind(0), SeesawMarket.RETIREMENT);
        Expect.same("trader on day 2", withEvents(2).eventTrader(0), 0);
        Expect.same("day on day 2", withEvents(2).eventDay(0), 2);
    }

    private static void kindsOfEvents() {
        Expect.same("no event", withEvents(0).eventKind(0), SeesawMarket.NONE);
        Expect.same("the elder of two", withEvents(2).eventKind(1), SeesawMarket.FALL);
        for (int index : new int[] {-1, 2, 11, 12, Integer.MIN_VALUE, Integer.MAX_VALUE}) {
            Expect.same("event " + index + " of two", withEvents(2).eventKind(index), SeesawMarket.NONE);
        }
    }

    private static void tradersOfEvents() {
        Expect.same("no event", withEvents(0).eventTrader(0), SeesawMarket.NONE);
        Expect.same("the elder of two", withEvents(2).eventTrader(1), 1);
        for (int index : new int[] {-1, 2, 11, 12, Integer.MIN_VALUE, Integer.MAX_VALUE}) {
            Expect.same("event " + index + " of two", withEvents(2).eventTrader(index), SeesawMarket.NONE);
        }
    }

    private static void daysOfEvents() {
        Expect.same("no event", withEvents(0).eventDay(0), SeesawMarket.NONE);
        Expect.same("the elder of two", withEvents(2).eventDay(1), 1);
        for (int index : new int[] {-1, 2, 11, 12, Integer.MIN_VALUE, Integer.MAX_VALUE}) {
            Expect.same("event " + index + " of two", withEvents(2).eventDay(index), SeesawMarket.NONE);
        }
    }

    private static void forecastsChangeNothing() {
        SeesawMarket market = Markets.rich();
        for (int trader = 0; trader < 4; trader++) {
            market.purseAfter(trader, 100);
            market.daysUntilFall(trader);
            market.daysUntilRetirement(trader);
        }
        market.bankAfter(100);
        Expect.same("picture", Markets.picture(market), Markets.picture(Markets.rich()));
        Expect.same("undo and slots", Markets.past(market), Markets.past(Markets.rich()));
    }

    /** The script goes on from day 9990 to day 9999. */
    private static SeesawMarket onLastDay(String setup, String script) {
        SeesawMarket market = Markets.onDay(setup, 9990);
        Markets.runAll(market, script);
        Expect.same("day", market.day(), 9999);
        return market;
    }

    private static void forecastsGoBeyondDay9999() {
        SeesawMarket alone = onLastDay("market 2 0 0 99 0 50;", "days 9; join a 1 9;");
        Expect.same("days to a retirement", alone.daysUntilRetirement(0), 100);
        Expect.same("purse on the day before", alone.purseAfter(0, 99), 9);
        Expect.same("purse on the day of the retirement", alone.purseAfter(0, 100), 0);
        Expect.same("bank on the day before", alone.bankAfter(99), 50);
        Expect.same("bank on the day of the retirement", alone.bankAfter(100), 59);
        // The first one retires in two days, and without it the board tips.
        SeesawMarket both = onLastDay("market 0 0 0 2 3 0; board 1 9 5;",
                "days 8; join a 5 9; buy a 0 left 1; days 1; join b 9 9; buy b 0 right 1;");
        Expect.same("days to a fall", both.daysUntilFall(1), 2);
        Expect.same("purse after a fall", both.purseAfter(1, 2), 9 - 1 - 3);
        Expect.noState("but no day can pass", () -> onLastDay(HEAD, "days 9;"), market -> market.advance(1));
    }

    /** A seat with an income of 3 a day, and 10 coins for it in the bank. */
    private static SeesawMarket paying() {
        return Markets.of("market 3 0 0 50 0 10; board 1 9 9; trader a 1 5 0; trader b 1 7 0; seat a 0 left 1;");
    }

    private static void pursesAfterNoneAndMostDays() {
        int[][] pursesOfDays = {{0, 5}, {1, 8}, {3, 14}, {4, 15}, {5, 15}, {50, 15}, {51, 0}, {99, 0}, {100, 0}};
        for (int[] row : pursesOfDays) {
            Expect.same("after " + row[0] + " days", paying().purseAfter(0, row[0]), row[1]);
        }
        Expect.same("of one without a seat", paying().purseAfter(1, 50), 7);
        SeesawMarket market = paying();
        market.advance(30);
        market.advance(30);
        Expect.same("retired, after no day", market.purseAfter(0, 0), 0);
        Expect.same("retired, after 100 days", market.purseAfter(0, 100), 0);
    }

    private static void pursesAfterOtherDays() {
        for (int days : new int[] {-1, 101, Integer.MIN_VALUE, Integer.MAX_VALUE}) {
            Expect.noArgument(days + " days", Markets::rich, market -> market.purseAfter(ANN, days));
        }
    }

    private static void banksAfterNoneAndMostDays() {
        int[][] banksOfDays = {{0, 10}, {1, 7}, {3, 1}, {4, 0}, {50, 0}, {51, 22}, {99, 22}, {100, 22}};
        for (int[] row : banksOfDays) {
            Expect.same("after " + row[0] + " days", paying().bankAfter(row[0]), row[1]);
        }
    }

    private static void banksAfterOtherDays() {
        for (int days : new int[] {-1, 101, Integer.MIN_VALUE, Integer.MAX_VALUE}) {
            Expect.noArgument(days + " days", Markets::rich, market -> market.bankAfter(days));
        }
    }

    private static int fallWhenTheOtherRetires(int days) {
        return Markets.of("market 0 0 0 500 0 0; board 1 9 0; trader a 5 1 " + (501 - days) + "; trader b 5 1 0; seat a 0 left 1;"
                + "seat b 0 right 1;").daysUntilFall(1);
    }

    private static void fallsWithinAHundredDays() {
        for (int days : new int[] {1, 2, 99, 100}) {
            Expect.same("on day " + days, fallWhenTheOtherRetires(days), days);
        }
        Expect.same("on day 101", fallWhenTheOtherRetires(101), SeesawMarket.NONE);
        Expect.same("never", Markets.of(HEAD + "board 1 9 9; trader a 1 1 0; seat a 0 left 1;").daysUntilFall(0), SeesawMarket.NONE);
        Expect.same("without a seat", Markets.of(HEAD + "trader a 1 1 0;").daysUntilFall(0), SeesawMarket.NONE);
        String tipping = "market 0 0 0 9 0 0; board 1 9 0; trader a 1 1 %d; seat a 0 left 1;";
        Expect.same("on the first day", Markets.of(String.format(tipping, 8)).daysUntilFall(0), 1);
        Expect.same("it retires before it falls", Markets.of(String.format(tipping, 9)).daysUntilFall(0), SeesawMarket.NONE);
        SeesawMarket market = Markets.of(String.format(tipping, 8));
        market.advance(1);
        Expect.same("it has fallen already", market.daysUntilFall(0), SeesawMarket.NONE);
        market.advance(1);
        Expect.same("it has retired", market.daysUntilFall(0), SeesawMarket.NONE);
    }

    private static void daysToRetirement() {
        String setup = "market 0 0 0 %d 0 0; trader a 1 1 %d;";
        Expect.same("at the retirement age", Markets.of(String.format(setup, 40, 40)).daysUntilRetirement(0), 1);
        Expect.same("a day younger", Markets.of(String.format(setup, 40, 39)).daysUntilRetirement(0), 2);
        Expect.same("the most days", Markets.of(String.format(setup, 999, 0)).daysUntilRetirement(0), 1000);
        Expect.same("the least retirement age", Markets.of(String.format(setup, 1, 0)).daysUntilRetirement(0), 2);
        SeesawMarket market = Markets.of(String.format(setup, 40, 40));
        market.advance(1);
        Expect.same("retired", market.daysUntilRetirement(0), 0);
        market.advance(30);
        Expect.same("retired long ago", market.daysUntilRetirement(0), 0);
    }
}
