import java.util.List;
import java.util.function.Consumer;

/** The boundary cases that the terms of changes and undo and the promises 52 to 58 name. */
public final class ChangeBoundaryTest {
    private static final String HEAD = "market 0 0 0 99 0 0;";
    private static final String NO_TRADER = "Throws `IndexOutOfBoundsException` if there is no such trader";
    private static final int ANN = Markets.ANN;
    private static final int BOB = Markets.BOB;
    private static final int CAT = Markets.CAT;
    private static final int DAN = Markets.DAN;

    public static void main(String[] args) {
        changes();
        joins();
        purchases();
        salesAndSwaps();
        wagesAndDays();
        Expect.end();
    }

    private static void changes() {
        Sentences.term("The methods whose description begins with \"Change.\" are recorded; a script is recorded as one change.",
                ChangeBoundaryTest::changesAndOtherCalls);
        Sentences.term("At most 8 changes can be undone; older ones are forgotten.", ChangeBoundaryTest::atMostEightChanges);
        Sentences.term("A method that throws an exception changes nothing.", ChangeBoundaryTest::refusedCallsChangeNothing);
        Sentences.term("If several exceptions apply, the one that is listed first is thrown.",
                ChangeBoundaryTest::theFirstOfSeveralExceptions);
        Sentences.term("IndexOutOfBoundsException is thrown if a trader, board, seat or slot with the given number does not exist.",
                ChangeBoundaryTest::whatExistedOnceOrWillExist);
        Sentences.term("`NONE = -1`: Returned if there is no such value.", ChangeBoundaryTest::noSuchValue);
    }

    private static void joins() {
        Sentences.promise(52, "A new trader appears, with the age 0 and no seat.", ChangeBoundaryTest::aNewTrader);
        Sentences.promise(52, "Its name is the whole text buffer, which is empty afterwards.", ChangeBoundaryTest::theWholeBuffer);
        Sentences.promise(52, "`weight`: 1 to 99", ChangeBoundaryTest::leastAndGreatestOfAJoin);
        Sentences.promise(52, "`purse`: 0 to 9999", ChangeBoundaryTest::leastAndGreatestOfAJoin);
        Sentences.promise(52, "Throws `IllegalArgumentException` if weight or purse is out of range",
                ChangeBoundaryTest::joinsOfOtherNumbers);
        Sentences.promise(52, "Throws `IllegalStateException` if there are 24 traders, or the text buffer is not a name (1 to 6 "
                + "letters), or a trader has this name", ChangeBoundaryTest::joinsThatAreRefused);
    }

    private static void purchases() {
        Sentences.promise(53, "It pays the price to the bank.", ChangeBoundaryTest::justThePrice);
        Sentences.promise(53, "Its former seat is free afterwards.", ChangeBoundaryTest::theFormerSeat);
        Sentences.promise(53, "Throws `IndexOutOfBoundsException` if there is no such trader, board or seat", () -> {
            Missing.trader((market, trader) -> market.buySeat(trader, 0, 1));
            Missing.boardOrSeat((market, board, position) -> market.buySeat(DAN, board, position));
        });
        Sentences.promise(53, "Throws `IllegalStateException` if reasonAgainstSeat is not POSSIBLE",
                ChangeBoundaryTest::purchasesThatAreRefused);
        Sentences.promise(54, "Returns the board on which it sat.", ChangeBoundaryTest::theBoardThatIsLeft);
        Sentences.promise(54, NO_TRADER, () -> Missing.trader(SeesawMarket::leaveSeat));
        Sentences.promise(54, "Throws `IllegalStateException` if the trader has no seat", ChangeBoundaryTest::nothingToLeave);
    }

    private static void salesAndSwaps() {
        Sentences.promise(55, "The seller gives units of its weight to the buyer, who pays units times the unit price to the seller.",
                ChangeBoundaryTest::justTheCoinsAndWeights);
        Sentences.promise(55, "`units`: 1 to 50", ChangeBoundaryTest::leastAndMostUnits);
        Sentences.promise(55, NO_TRADER, () -> {
            Missing.trader((market, trader) -> market.sellWeight(trader, ANN, 1));
            Missing.trader((market, trader) -> market.sellWeight(ANN, trader, 1));
        });
        Sentences.promise(55, "Throws `IllegalArgumentException` if the seller is the buyer, or units is out of range",
                ChangeBoundaryTest::salesThatAreNone);
        Sentences.promise(55, "Throws `IllegalStateException` if reasonAgainstSale is not POSSIBLE",
                ChangeBoundaryTest::salesThatAreRefused);
        Sentences.promise(56, "The heights are those before the swap.", ChangeBoundaryTest::heightsBeforeTheSwap);
        Sentences.promise(56, "Returns the coins that the first trader paid; negative if it received them.",
                ChangeBoundaryTest::paidOrReceived);
        Sentences.promise(56, NO_TRADER, () -> {
            Missing.trader((market, trader) -> market.swapSeats(trader, ANN));
            Missing.trader((market, trader) -> market.swapSeats(ANN, trader));
        });
        Sentences.promise(56, "Throws `IllegalArgumentException` if both are the same trader", () -> {
            Expect.noArgument("with a seat", Markets::rich, market -> market.swapSeats(ANN, ANN));
            Expect.noArgument("without a seat", Markets::rich, market -> market.swapSeats(BOB, BOB));
        });
        Sentences.promise(56, "Throws `IllegalStateException` if reasonAgainstSwap is not POSSIBLE",
                ChangeBoundaryTest::swapsThatAreRefused);
    }

    private static void wagesAndDays() {
        Sentences.promise(57, "`wage`: 0 to 20", ChangeBoundaryTest::leastAndGreatestWage);
        Sentences.promise(57, "Throws `IllegalArgumentException` if wage is out of range", ChangeBoundaryTest::otherWages);
        Sentences.promise(58, "`days`: 1 to 30", ChangeBoundaryTest::leastAndMostDays);
        Sentences.promise(58, "Returns the number of falls in these days.", ChangeBoundaryTest::fallsOfTheseDays);
        Sentences.promise(58, "Throws `IllegalArgumentException` if days is out of range", ChangeBoundaryTest::otherDays);
        Sentences.promise(58, "Throws `IllegalStateException` if the day would be greater than 9999",
                ChangeBoundaryTest::day9999IsTheLast);
    }

    private static void changesAndOtherCalls() {
        SeesawMarket market = Markets.first();
        Expect.same("none", market.undoCount(), 0);
        market.setWage(3);
        Expect.same("a change that changes nothing", market.undoCount(), 1);
        Markets.run(market, "wage 4; wage 5; days 1;");
        Expect.same("a script of three commands", market.undoCount(), 2);
        Markets.run(market, "");
        Expect.same("a script of none", market.undoCount(), 3);
        market.save(0);
        market.writeBoard(0);
        market.bankAfter(100);
        market.daysUntilFall(0);
        market.findTrader();
        market.truncate(0);
        Expect.same("calls that are no changes", market.undoCount(), 3);
        market.undo();
        Expect.same("an undo is none", market.undoCount(), 2);
    }

    private static void atMostEightChanges() {
        SeesawMarket market = Markets.first();
        for (int wage = 0; wage <= 7; wage++) {
            market.setWage(wage);
        }
        Expect.same("eight of eight", market.undoCount(), 8);
        for (int left = 7; left >= 0; left--) {
            Expect.same("undo of eight", market.undo(), left);
        }
        Expect.same("the state of the beginning", Markets.state(market), Markets.state(Markets.first()));
        for (int change = 0; change < 30; change++) {
            market.setWage(change % 21);
            Expect.same("changes after " + change, market.undoCount(), Math.min(8, change + 1));
        }
        for (int left = 7; left >= 0; left--) {
            Expect.same("undo of thirty", market.undo(), left);
            Expect.same("wage with " + left + " left", market.wage(), left);
        }
        Expect.noState("the ninth undo", () -> {
            SeesawMarket full = Markets.first();
            for (int wage = 0; wage <= 8; wage++) {
                full.setWage(wage);
            }
            while (full.undoCount() > 0) {
                full.undo();
            }
            return full;
        }, full -> full.undo());
    }

    private static void refusedCallsChangeNothing() {
        List<Consumer<SeesawMarket>> calls = List.of(market -> market.truncate(4), market -> market.armLength(2),
                market -> market.seatOwner(0, 0), market -> market.balancingSeat(0, 0), market -> market.weightOf(4),
                market -> market.reasonAgainstSale(ANN, ANN, 1), market -> market.weightUnitPrice(ANN, BOB),
                market -> market.purseAfter(0, 101), market -> market.bankAfter(-1), market -> market.daysUntilFall(-1),
                market -> market.join(0, 1), market -> market.join(1, 10000), market -> market.buySeat(DAN, 0, 1),
                market -> market.buySeat(DAN, 0, 0), market -> market.leaveSeat(BOB), market -> market.sellWeight(ANN, BOB, 1),
                market -> market.sellWeight(ANN, DAN, 51), market -> market.swapSeats(ANN, BOB), market -> market.setWage(21),
                market -> market.advance(31), market -> market.advance(0), market -> market.writeBoard(2),
                market -> market.save(2), market -> market.restore(2));
        SeesawMarket market = Markets.rich();
        int refused = 0;
        for (Consumer<SeesawMarket> call : calls) {
            refused += isRefused(market, call) ? 1 : 0;
        }
        Expect.same("refused calls", refused, calls.size());
        Expect.same("picture", Markets.picture(market), Markets.picture(Markets.rich()));
        Expect.same("the name is still there", market.join(1, 1), 4);
        market.undo();
        Expect.same("undo and slots", Markets.past(market), Markets.past(Markets.rich()));
    }

    private static boolean isRefused(SeesawMarket market, Consumer<SeesawMarket> call) {
        try {
            call.accept(market);
            return false;
        } catch (RuntimeException exception) {
            return true;
        }
    }

    private static SeesawMarket withRetired() {
        return Markets.after(Markets.FIRST_SETUP, "days 3;");
    }

    private static void theFirstOfSeveralExceptions() {
        Expect.noIndex("balancing seat", Markets::rich, market -> market.balancingSeat(2, 0));
        Expect.noIndex("reason against a sale", Markets::rich, market -> market.reasonAgainstSale(4, 4, 0));
        Expect.noIndex("reason against a sale to nobody", Markets::rich, market -> market.reasonAgainstSale(ANN, 4, 51));
        Expect.noIndex("reason against a swap", Markets::rich, market -> market.reasonAgainstSwap(-1, -1));
        Expect.noIndex("unit price without a seat", Markets::rich, market -> market.weightUnitPrice(BOB, 4));
        Expect.noIndex("purse after too many days", Markets::rich, market -> market.purseAfter(4, 101));
        Expect.noArgument("join of a known name", () -> withText("ann"), market -> market.join(0, 0));
        Expect.noArgument("join without a name", () -> withText(""), market -> market.join(1, -1));
        Expect.noIndex("purchase of a retired one", ChangeBoundaryTest::withRetired, market -> market.buySeat(CAT, 1, 3));
        Expect.noIndex("purchase of a retired one on no board", ChangeBoundaryTest::withRetired,
                market -> market.buySeat(CAT, 2, 1));
        Expect.noIndex("sale of nobody to nobody", Markets::rich, market -> market.sellWeight(4, 4, 0));
        Expect.noIndex("sale of nothing to nobody", Markets::rich, market -> market.sellWeight(BOB, 4, 0));
        Expect.noArgument("sale to itself without a seat", Markets::rich, market -> market.sellWeight(BOB, BOB, 1));
        Expect.noArgument("sale of 51 units without a seat", Markets::rich, market -> market.sellWeight(BOB, ANN, 51));
        Expect.noIndex("swap of nobody with nobody", Markets::rich, market -> market.swapSeats(4, 4));
        Expect.noIndex("swap without a seat with nobody", Markets::rich, market -> market.swapSeats(BOB, 4));
        Expect.noArgument("swap with itself without a seat", Markets::rich, market -> market.swapSeats(BOB, BOB));
        Expect.noArgument("31 days from the last day", () -> Markets.onDay(HEAD, 9999), market -> market.advance(31));
        Expect.noArgument("0 days from the last day", () -> Markets.onDay(HEAD, 9999), market -> market.advance(0));
    }

    private static void whatExistedOnceOrWillExist() {
        Expect.noIndex("a trader whose join was undone", () -> {
            SeesawMarket market = Markets.first();
            Markets.join(market, "eve", 1, 1);
            market.undo();
            return market;
        }, market -> market.weightOf(4));
        Expect.noIndex("a trader of the market before a load", () -> Markets.of(Markets.withTraders(2)),
                market -> market.purseOf(2));
        Expect.noIndex("a board of the market before a load", () -> Markets.of(HEAD + "board 3 1 1;"), market -> market.torque(1));
        Expect.noIndex("a seat of the market before a load", () -> Markets.of(HEAD + "board 1 1 1;"),
                market -> market.seatOwner(0, 3));
        Expect.same("a retired trader exists", withRetired().weightOf(CAT), 8);
        SeesawMarket joined = Markets.first();
        Markets.join(joined, "eve", 1, 1);
        Expect.same("a trader that joined exists", joined.weightOf(4), 1);
    }

    private static void noSuchValue() {
        SeesawMarket market = Markets.of(HEAD + "board 1 1 1; trader a 1 1 1;");
        Expect.same("error position", market.errorPosition(), -1);
        Expect.same("script with an error", Markets.run(market, "?"), -1);
        Expect.same("owner of a free seat", market.seatOwner(0, 1), -1);
        Expect.same("trader of no name", market.findTrader(), -1);
        Expect.same("letter", market.nameLetter(0, 1), -1);
        Expect.same("board of one without a seat", market.boardOf(0), -1);
        Expect.same("place", market.richestAt(1), -1);
        Expect.same("kind of an event", market.eventKind(0), -1);
        Expect.same("trader of an event", market.eventTrader(0), -1);
        Expect.same("day of an event", market.eventDay(0), -1);
        Expect.same("days until a fall", market.daysUntilFall(0), -1);
        Expect.same("byte of the output", market.outputByte(0), -1);
    }

    private static void aNewTrader() {
        SeesawMarket market = Markets.of("market 0 0 0 1 0 0;");
        Expect.same("the first trader of a market", Markets.join(market, "a", 1, 5), 0);
        Expect.same("age", market.ageOf(0), 0);
        Expect.same("present", market.isPresent(0), true);
        Expect.same("board", market.boardOf(0), SeesawMarket.NONE);
        Expect.same("position", market.positionOf(0), 0);
        market.advance(1);
        Expect.same("age a day later", market.ageOf(0), 1);
        Markets.load(market, HEAD + "board 1 1 9; trader x 9 9 9; seat x 0 left 1;");
        Markets.load(market, HEAD + "board 1 1 9;");
        Markets.join(market, "b", 1, 5);
        Expect.same("nothing of an earlier trader: board", market.boardOf(0), SeesawMarket.NONE);
        Expect.same("nothing of an earlier trader: age", market.ageOf(0), 0);
        Expect.same("nothing of an earlier trader: torque", market.torque(0), 0);
    }

    private static SeesawMarket withText(String text) {
        SeesawMarket market = Markets.rich();
        Markets.write(market, text);
        return market;
    }

    private static void theWholeBuffer() {
        for (String name : new String[] {"a", "z", "abcdef", "zzzzzz", "an", "anna", "left", "market"}) {
            SeesawMarket market = withText(name);
            Expect.same("join of " + name, market.join(1, 1), 4);
            Expect.same("name", Markets.name(market, 4), name);
            Expect.same("the buffer is empty", Markets.bufferLength(market), 0);
            Expect.same("nobody has the empty name", market.findTrader(), SeesawMarket.NONE);
        }
    }

    private static void leastAndGreatestOfAJoin() {
        SeesawMarket market = Markets.first();
        Markets.join(market, "least", 1, 0);
        Markets.join(market, "most", 99, 9999);
        Expect.same("the least weight", market.weightOf(4), 1);
        Expect.same("the least purse", market.purseOf(4), 0);
        Expect.same("the greatest weight", market.weightOf(5), 99);
        Expect.same("the greatest purse", market.purseOf(5), 9999);
    }

    private static void joinsOfOtherNumbers() {
        for (int weight : new int[] {0, 100, -1, Integer.MIN_VALUE, Integer.MAX_VALUE}) {
            Expect.noArgument("weight " + weight, Markets::rich, market -> market.join(weight, 1));
        }
        for (int purse : new int[] {-1, 10000, Integer.MIN_VALUE, Integer.MAX_VALUE}) {
            Expect.noArgument("purse " + purse, Markets::rich, market -> market.join(1, purse));
        }
    }

    private static void joinsThatAreRefused() {
        String[] texts = {"", "abcdefg", "a".repeat(800), " ", " eve", "eve ", "e e", "eve;", "Eve", "ev1", "e`", "e{", "e\u00e9",
            "\u00ff", "ann", "dan"};
        for (String text : texts) {
            Expect.noState("text " + text, () -> withText(text), market -> market.join(1, 1));
        }
        Expect.noState("24 traders", () -> {
            SeesawMarket market = Markets.of(Markets.withTraders(24));
            Markets.write(market, "new");
            return market;
        }, market -> market.join(1, 1));
        Expect.noState("the name of a retired one", () -> {
            SeesawMarket market = withRetired();
            Markets.write(market, "cat");
            return market;
        }, market -> market.join(1, 1));
        SeesawMarket last = Markets.of(Markets.withTraders(23));
        Expect.same("the 24th trader", Markets.join(last, "new", 1, 1), 23);
    }

    private static void justThePrice() {
        SeesawMarket market = Markets.of("market 0 7 0 99 0 0; board 1 9 9; trader a 1 8 0; seat a 0 left 1;");
        Expect.same("price", market.buySeat(0, 0, 1), 8);
        Expect.same("an empty purse", market.purseOf(0), 0);
        Expect.same("bank", market.bank(), 8);
        SeesawMarket steep = Markets.of("market 0 99 0 99 0 0; board 6 1 999; trader a 99 0 0; trader b 1 159 0; seat a 0 right 6;");
        Expect.same("the greatest price", steep.buySeat(1, 0, -6), 159);
        Expect.same("an empty purse after it", steep.purseOf(1), 0);
    }

    private static void theFormerSeat() {
        SeesawMarket market = Markets.first();
        market.buySeat(ANN, 0, -3);
        Expect.same("on the same board", Markets.board(market, 0), "ann . . ^ . . bob");
        market.buySeat(ANN, 1, -2);
        Expect.same("on another board", Markets.board(market, 0), ". . . ^ . . bob");
        Expect.same("the new seat", Markets.board(market, 1), "ann . ^ cat .");
        market.undo();
        Expect.same("after an undo", Markets.board(market, 0), "ann . . ^ . . bob");
        Expect.same("another one may buy the former seat", market.buySeat(DAN, 0, -2), 6);
        Expect.same("without a former seat", Markets.board(market, 0), "ann dan . ^ . . bob");
    }

    private static void purchasesThatAreRefused() {
        Expect.noState("retired", ChangeBoundaryTest::withRetired, market -> market.buySeat(CAT, 1, 1));
        Expect.noState("taken", Markets::rich, market -> market.buySeat(BOB, 0, 1));
        Expect.noState("taken by itself", Markets::rich, market -> market.buySeat(DAN, 0, 1));
        Expect.noState("one coin too few", () -> Markets.of("market 0 7 0 99 0 0; board 1 9 9; trader a 1 7 0;"),
                market -> market.buySeat(0, 0, 1));
        Expect.noState("one beyond the limit", () -> Markets.of(HEAD + "board 1 9 8; trader a 9 9 0;"),
                market -> market.buySeat(0, 0, 1));
        Expect.same("just the limit", Markets.of(HEAD + "board 1 9 9; trader a 9 9 0;").buySeat(0, 0, 1), 1);
    }

    private static void theBoardThatIsLeft() {
        SeesawMarket market = Markets.of(HEAD + "board 6 1 9;".repeat(5) + "trader a 1 0 0; trader b 1 0 0; seat a 0 left 6;"
                + "seat b 4 right 6;");
        Expect.same("the first board", market.leaveSeat(0), 0);
        Expect.same("the last board", market.leaveSeat(1), 4);
        Expect.same("the first seat", market.seatOwner(0, -6), SeesawMarket.NONE);
        Expect.same("the last seat", market.seatOwner(4, 6), SeesawMarket.NONE);
        Expect.sameFloat("all are empty", market.occupancy(), 0.0f);
    }

    private static void nothingToLeave() {
        Expect.noState("left already", Markets::rich, market -> market.leaveSeat(BOB));
        Expect.noState("retired", ChangeBoundaryTest::withRetired, market -> market.leaveSeat(CAT));
        Expect.noState("fallen", () -> {
            SeesawMarket market = Markets.of(HEAD + "board 1 1 0; trader a 1 0 0; seat a 0 left 1;");
            market.advance(1);
            return market;
        }, market -> market.leaveSeat(0));
    }

    private static SeesawMarket weights(int seller, int buyer, int coins) {
        return weights(seller, buyer, coins, 999);
    }

    private static SeesawMarket weights(int seller, int buyer, int coins, int limit) {
        return Markets.of("market 0 0 2 99 0 0; board 1 99 " + limit + "; trader a " + seller + " 0 0; trader b " + buyer + " "
                + coins + " 0; trader c 9 9 0; seat a 0 left 1; seat b 0 right 1;");
    }

    private static void justTheCoinsAndWeights() {
        SeesawMarket market = weights(30, 80, 38);
        Expect.same("coins", market.sellWeight(0, 1, 19), 38);
        Expect.same("the weight of the seller", market.weightOf(0), 11);
        Expect.same("the greatest weight", market.weightOf(1), 99);
        Expect.same("the purse of the seller", market.purseOf(0), 38);
        Expect.same("an empty purse", market.purseOf(1), 0);
        Expect.same("the bank has no part in it", market.bank(), 0);
    }

    private static void leastAndMostUnits() {
        SeesawMarket one = weights(2, 1, 2);
        Expect.same("one unit", one.sellWeight(0, 1, 1), 2);
        Expect.same("the least weight", one.weightOf(0), 1);
        SeesawMarket fifty = weights(51, 10, 100);
        Expect.same("fifty units", fifty.sellWeight(0, 1, 50), 100);
        Expect.same("the least weight after fifty", fifty.weightOf(0), 1);
        Expect.same("the weight of the buyer", fifty.weightOf(1), 60);
    }

    private static void salesThatAreNone() {
        Expect.noArgument("to itself", Markets::rich, market -> market.sellWeight(ANN, ANN, 1));
        for (int units : new int[] {0, 51, -1, Integer.MIN_VALUE, Integer.MAX_VALUE}) {
            Expect.noArgument(units + " units", Markets::rich, market -> market.sellWeight(ANN, DAN, units));
        }
    }

    private static void salesThatAreRefused() {
        Expect.noState("a seller without a seat", () -> weights(9, 9, 99), market -> market.sellWeight(2, 1, 1));
        Expect.noState("a buyer without a seat", () -> weights(9, 9, 99), market -> market.sellWeight(0, 2, 1));
        Expect.noState("different boards", Markets::first, market -> market.sellWeight(ANN, CAT, 1));
        Expect.noState("a weight of 0", () -> weights(9, 9, 99), market -> market.sellWeight(0, 1, 9));
        Expect.noState("a weight of 100", () -> weights(99, 91, 99), market -> market.sellWeight(0, 1, 9));
        Expect.noState("one coin too few", () -> weights(9, 9, 15), market -> market.sellWeight(0, 1, 8));
        Expect.same("coins enough", weights(9, 9, 16).sellWeight(0, 1, 8), 16);
        Expect.noState("one beyond the limit", () -> weights(51, 11, 100, 59), market -> market.sellWeight(0, 1, 50));
        Expect.same("just the limit", weights(51, 11, 100, 60).sellWeight(0, 1, 50), 100);
    }

    /** The torque is 20, the tilt 9, the heights -27 and 18; swapped the torque would be -10. */
    private static SeesawMarket steep(int coinsOfLow, int limit) {
        return Markets.of(HEAD + "board 3 2 " + limit + "; trader low 8 " + coinsOfLow + " 0; trader high 2 0 0; trader none 1 9 0;"
                + "seat low 0 right 3; seat high 0 left 2;");
    }

    private static void heightsBeforeTheSwap() {
        SeesawMarket market = steep(70, 20);
        Expect.same("coins", market.swapSeats(0, 1), 45);
        Expect.same("the tilt after the swap", market.tilt(0), -5);
        Expect.same("purse", market.purseOf(0), 25);
        Expect.same("the other purse", market.purseOf(1), 45);
        // Now the other one sits at a height of 15 and the first one at -10.
        Expect.same("back again", market.swapSeats(0, 1), 25);
        Expect.same("an empty purse", market.purseOf(0), 0);
    }

    private static void paidOrReceived() {
        Expect.same("paid", steep(45, 10).swapSeats(0, 1), 45);
        Expect.same("received", steep(45, 10).swapSeats(1, 0), -45);
        Expect.same("neither", Markets.first().swapSeats(ANN, BOB), 0);
        Expect.same("paid by a trader of another board", Markets.first().swapSeats(CAT, ANN), 1);
        Expect.same("received by a trader of another board", Markets.first().swapSeats(ANN, CAT), -1);
    }

    private static void swapsThatAreRefused() {
        Expect.noState("the first has no seat", () -> steep(99, 99), market -> market.swapSeats(2, 0));
        Expect.noState("the other has no seat", () -> steep(99, 99), market -> market.swapSeats(0, 2));
        Expect.noState("one coin too few", () -> steep(44, 99), market -> market.swapSeats(0, 1));
        Expect.noState("one coin too few of the other", () -> steep(44, 99), market -> market.swapSeats(1, 0));
        Expect.noState("one beyond the limit", () -> steep(45, 9), market -> market.swapSeats(0, 1));
        Expect.noState("retired", ChangeBoundaryTest::withRetired, market -> market.swapSeats(ANN, CAT));
    }

    private static void leastAndGreatestWage() {
        SeesawMarket market = Markets.first();
        Expect.same("to the least", market.setWage(0), 3);
        Expect.same("the least", market.wage(), 0);
        Expect.same("to the greatest", market.setWage(20), 0);
        Expect.same("the greatest", market.wage(), 20);
    }

    private static void otherWages() {
        for (int wage : new int[] {-1, 21, Integer.MIN_VALUE, Integer.MAX_VALUE}) {
            Expect.noArgument("wage " + wage, Markets::rich, market -> market.setWage(wage));
        }
    }

    private static void leastAndMostDays() {
        SeesawMarket market = Markets.first();
        market.advance(1);
        Expect.same("one day", market.day(), 1);
        market.advance(30);
        Expect.same("thirty days", market.day(), 31);
        market.undo();
        Expect.same("thirty days are one change", market.day(), 1);
    }

    private static void fallsOfTheseDays() {
        Expect.same("without traders", Markets.of(HEAD).advance(30), 0);
        String setup = "market 0 0 0 9 0 0; board 1 9 0; trader a 1 0 0; trader b 1 0 6; seat a 0 left 1; seat b 0 right 1;";
        Expect.same("a fall on the last of the days", Markets.of(setup).advance(4), 1);
        Expect.same("a fall on the day after", Markets.of(setup).advance(3), 0);
        SeesawMarket market = Markets.of(setup);
        market.advance(4);
        Expect.same("earlier falls do not count", market.advance(1), 0);
        Expect.same("but they are kept", market.fallCount(), 1);
    }

    private static void otherDays() {
        for (int days : new int[] {0, 31, -1, Integer.MIN_VALUE, Integer.MAX_VALUE}) {
            Expect.noArgument(days + " days", Markets::rich, market -> market.advance(days));
        }
    }

    private static void day9999IsTheLast() {
        Expect.noState("day 10000 by 30 days", () -> Markets.onDay(HEAD, 9970), market -> market.advance(30));
        Expect.same("day 9999 by 29 days", Markets.onDay(HEAD, 9970).advance(29), 0);
        Expect.noState("day 10001", () -> Markets.onDay(HEAD, 9971), market -> market.advance(30));
        Expect.noState("day 10000 by 1 day", () -> Markets.onDay(HEAD, 9999), market -> market.advance(1));
        Expect.same("day 9999 by 1 day", Markets.onDay(HEAD, 9998).advance(1), 0);
        Expect.noState("day 10029", () -> Markets.onDay(HEAD, 9999), market -> market.advance(30));
    }
}
