/** Promises 34 to 38: reasons against changes, and their prices. */
public final class ReasonTest {
    private static final int ANN = Markets.ANN;
    private static final int BOB = Markets.BOB;
    private static final int CAT = Markets.CAT;
    private static final int DAN = Markets.DAN;

    public static void main(String[] args) {
        promise34TellsTheFirstReasonAgainstASeat();
        promise34TakesThePresentSeatAway();
        promise34Refuses();
        promise35TellsTheFirstReasonAgainstASale();
        promise35TheLimitsOfASale();
        promise35Refuses();
        promise36TellsTheFirstReasonAgainstASwap();
        promise36TheTraderOfTheHigherSeatPays();
        promise36LooksAtBothBoards();
        promise36Refuses();
        promise37UnitPrice();
        promise37Refuses();
        promise38BestSeat();
        promise38Refuses();
        Expect.end();
    }

    private static void promise34TellsTheFirstReasonAgainstASeat() {
        SeesawMarket market = Markets.first();
        Expect.same("possible", market.reasonAgainstSeat(DAN, 0, 1), SeesawMarket.POSSIBLE);
        Expect.same("taken", market.reasonAgainstSeat(DAN, 0, -2), SeesawMarket.SEAT_TAKEN);
        Expect.same("taken by itself", market.reasonAgainstSeat(ANN, 0, -2), SeesawMarket.SEAT_TAKEN);
        Expect.same("would tip", market.reasonAgainstSeat(DAN, 1, 2), SeesawMarket.WOULD_TIP);
        SeesawMarket poor = Markets.of("market 0 5 0 10 0 0; board 2 2 9; trader a 2 0 10; trader b 9 8 0; trader c 5 10 0;"
                + "trader d 9 7 0; trader e 9 9 0; trader f 1 0 0; seat a 0 right 2;");
        Expect.same("price 8 for 8 coins", poor.reasonAgainstSeat(1, 0, -1), SeesawMarket.POSSIBLE);
        Expect.same("price 8 for 7 coins", poor.reasonAgainstSeat(3, 0, -1), SeesawMarket.TOO_POOR);
        Expect.same("price 11 for 10 coins, and it would not tip", poor.reasonAgainstSeat(2, 0, -2), SeesawMarket.TOO_POOR);
        Expect.same("poor before tipping", poor.reasonAgainstSeat(4, 0, -2), SeesawMarket.TOO_POOR);
        Expect.same("taken before poor", poor.reasonAgainstSeat(5, 0, 2), SeesawMarket.SEAT_TAKEN);
        Expect.same("a torque of 13", poor.reasonAgainstSeat(4, 0, 1), SeesawMarket.WOULD_TIP);
        Expect.same("a torque of 9", poor.reasonAgainstSeat(2, 0, 1), SeesawMarket.POSSIBLE);
        poor.advance(1);
        Expect.same("retired before poor", poor.reasonAgainstSeat(0, 0, 2), SeesawMarket.RETIRED);
        Markets.runAll(poor, "buy b 0 right 1;");
        Expect.same("retired before taken", poor.reasonAgainstSeat(0, 0, 1), SeesawMarket.RETIRED);
    }

    private static void promise34TakesThePresentSeatAway() {
        SeesawMarket market = Markets.of("market 0 0 0 99 0 0; board 2 9 5; board 2 9 4; trader a 5 9 0; trader b 5 9 0;"
                + "seat a 0 left 1; seat b 0 right 1;");
        Expect.same("to the other side of its board", market.reasonAgainstSeat(0, 0, 2), SeesawMarket.WOULD_TIP);
        Expect.same("farther on its side", market.reasonAgainstSeat(0, 0, -2), SeesawMarket.POSSIBLE);
        Expect.same("to another board", market.reasonAgainstSeat(0, 1, 1), SeesawMarket.WOULD_TIP);
        SeesawMarket left = Markets.of("market 0 0 0 99 0 0; board 2 9 3; board 1 9 9; trader a 5 9 0; trader b 5 9 0;"
                + "seat a 0 left 1; seat b 0 right 1;");
        Expect.same("the board that is left may tip", left.reasonAgainstSeat(0, 1, 1), SeesawMarket.POSSIBLE);
    }

    private static void promise34Refuses() {
        for (int number : new int[] {-1, 4, Integer.MAX_VALUE}) {
            Expect.noIndex("trader", Markets::first, market -> market.reasonAgainstSeat(number, 0, 1));
            Expect.noIndex("board", Markets::first, market -> market.reasonAgainstSeat(DAN, number, 1));
            Expect.noIndex("best seat of a trader", Markets::first, market -> market.bestSeat(number, 0));
        }
        for (int position : new int[] {0, -4, 4, Integer.MIN_VALUE}) {
            Expect.noIndex("position", Markets::first, market -> market.reasonAgainstSeat(DAN, 0, position));
        }
    }

    private static void promise35TellsTheFirstReasonAgainstASale() {
        SeesawMarket market = Markets.first();
        Expect.same("possible", market.reasonAgainstSale(BOB, ANN, 5), SeesawMarket.POSSIBLE);
        Expect.same("the seller has no seat", market.reasonAgainstSale(DAN, ANN, 5), SeesawMarket.NO_SEAT);
        Expect.same("the buyer has no seat", market.reasonAgainstSale(ANN, DAN, 50), SeesawMarket.NO_SEAT);
        Expect.same("different boards", market.reasonAgainstSale(ANN, CAT, 50), SeesawMarket.DIFFERENT_BOARDS);
        Expect.same("too much weight before too poor", market.reasonAgainstSale(BOB, ANN, 50), SeesawMarket.WRONG_WEIGHT);
        SeesawMarket tight = Markets.of("market 0 0 7 99 0 0; board 2 99 12; trader a 90 99 0; trader b 89 69 0;"
                + "seat a 0 left 2; seat b 0 right 2;");
        Expect.same("poor before tipping", tight.reasonAgainstSale(0, 1, 10), SeesawMarket.TOO_POOR);
        Expect.same("rich enough, but tipping", tight.reasonAgainstSale(0, 1, 9), SeesawMarket.WOULD_TIP);
        Expect.same("heavy before poor", tight.reasonAgainstSale(0, 1, 50), SeesawMarket.WRONG_WEIGHT);
        market.advance(3);
        Expect.same("a retired one has no seat", market.reasonAgainstSale(CAT, ANN, 1), SeesawMarket.NO_SEAT);
    }

    private static void promise35TheLimitsOfASale() {
        String heads = "market 0 0 7 99 0 0; board 2 99 12; trader a 6 99 0; trader b 95 70 0; trader c 60 28 0;";
        SeesawMarket weights = Markets.of(heads + "seat a 0 left 1; seat b 0 left 2; seat c 0 right 1;");
        Expect.same("a weight of 1 is left", weights.reasonAgainstSale(0, 2, 5), SeesawMarket.TOO_POOR);
        Expect.same("a weight of 0 would be left", weights.reasonAgainstSale(0, 2, 6), SeesawMarket.WRONG_WEIGHT);
        Expect.same("a weight of 99", weights.reasonAgainstSale(0, 1, 4), SeesawMarket.WOULD_TIP);
        Expect.same("a weight of 100", weights.reasonAgainstSale(0, 1, 5), SeesawMarket.WRONG_WEIGHT);
        Expect.same("28 coins for four at 9", weights.reasonAgainstSale(0, 2, 4), SeesawMarket.TOO_POOR);
        Expect.same("28 coins for three at 9", weights.reasonAgainstSale(0, 2, 3), SeesawMarket.WOULD_TIP);
        SeesawMarket coins = Markets.of(heads.replace("60 28", "60 27") + "seat a 0 left 1; seat b 0 left 2; seat c 0 right 1;");
        Expect.same("27 coins for three at 9", coins.reasonAgainstSale(0, 2, 3), SeesawMarket.WOULD_TIP);
        SeesawMarket tips = Markets.of("market 0 0 1 99 0 0; board 2 99 12; trader a 6 99 0; trader b 6 99 0;"
                + "seat a 0 left 2; seat b 0 right 2;");
        Expect.same("a torque of 12", tips.reasonAgainstSale(0, 1, 3), SeesawMarket.POSSIBLE);
        Expect.same("a torque of 16", tips.reasonAgainstSale(0, 1, 4), SeesawMarket.WOULD_TIP);
        Expect.same("a torque of -16", tips.reasonAgainstSale(1, 0, 4), SeesawMarket.WOULD_TIP);
        SeesawMarket relief = Markets.of("market 0 0 1 99 0 0; board 2 99 2; trader a 6 99 0; trader b 6 99 0;"
                + "seat a 0 right 2; seat b 0 left 1;");
        Expect.same("it tips before and after", relief.reasonAgainstSale(0, 1, 1), SeesawMarket.WOULD_TIP);
        Expect.same("it tips before only", relief.reasonAgainstSale(0, 1, 2), SeesawMarket.POSSIBLE);
    }

    private static void promise35Refuses() {
        for (int number : new int[] {-1, 4, Integer.MIN_VALUE}) {
            Expect.noIndex("seller", Markets::first, market -> market.reasonAgainstSale(number, ANN, 0));
            Expect.noIndex("buyer", Markets::first, market -> market.reasonAgainstSale(ANN, number, 51));
            Expect.noIndex("both", Markets::first, market -> market.reasonAgainstSale(number, number, 1));
        }
        Expect.noArgument("to itself", Markets::first, market -> market.reasonAgainstSale(ANN, ANN, 1));
        Expect.noArgument("no units", Markets::first, market -> market.reasonAgainstSale(ANN, BOB, 0));
        Expect.noArgument("51 units", Markets::first, market -> market.reasonAgainstSale(ANN, BOB, 51));
        Expect.noArgument("no units without a seat", Markets::first, market -> market.reasonAgainstSale(ANN, DAN, -1));
    }

    private static void promise36TellsTheFirstReasonAgainstASwap() {
        SeesawMarket market = Markets.first();
        Expect.same("possible", market.reasonAgainstSwap(ANN, BOB), SeesawMarket.POSSIBLE);
        Expect.same("no seat", market.reasonAgainstSwap(ANN, DAN), SeesawMarket.NO_SEAT);
        Expect.same("no seat of the first", market.reasonAgainstSwap(DAN, ANN), SeesawMarket.NO_SEAT);
        market.advance(3);
        Expect.same("retired", market.reasonAgainstSwap(CAT, ANN), SeesawMarket.NO_SEAT);
    }

    private static SeesawMarket steep(int purseLow, int purseHigh, int limit) {
        return Markets.of("market 0 0 0 99 0 0; board 3 2 " + limit + "; trader low 8 " + purseLow + " 0; trader high 2 "
                + purseHigh + " 0; seat low 0 right 3; seat high 0 left 2;");
    }

    private static void promise36TheTraderOfTheHigherSeatPays() {
        // A torque of 20 at a stiffness of 2 is a tilt of 9; the heights are -27 and 18.
        Expect.same("44 coins", steep(44, 0, 99).reasonAgainstSwap(0, 1), SeesawMarket.TOO_POOR);
        Expect.same("44 coins of the other", steep(44, 0, 99).reasonAgainstSwap(1, 0), SeesawMarket.TOO_POOR);
        Expect.same("45 coins", steep(45, 0, 99).reasonAgainstSwap(0, 1), SeesawMarket.POSSIBLE);
        Expect.same("45 coins of the other", steep(45, 0, 99).reasonAgainstSwap(1, 0), SeesawMarket.POSSIBLE);
        Expect.same("the torque would be -10", steep(45, 0, 9).reasonAgainstSwap(1, 0), SeesawMarket.WOULD_TIP);
        Expect.same("the torque may be -10", steep(45, 0, 10).reasonAgainstSwap(1, 0), SeesawMarket.POSSIBLE);
        Expect.same("poor before tipping", steep(44, 99, 9).reasonAgainstSwap(1, 0), SeesawMarket.TOO_POOR);
    }

    private static void promise36LooksAtBothBoards() {
        String heads = "market 0 0 0 99 0 0; board 3 99 %d; board 3 99 %d; trader a 2 9 0; trader b 7 9 0;"
                + "seat a 0 left 3; seat b 1 right 1;";
        Expect.same("both hold", Markets.of(String.format(heads, 21, 2)).reasonAgainstSwap(0, 1), SeesawMarket.POSSIBLE);
        Expect.same("the first tips", Markets.of(String.format(heads, 20, 2)).reasonAgainstSwap(0, 1),
                SeesawMarket.WOULD_TIP);
        Expect.same("the first of the other tips", Markets.of(String.format(heads, 20, 2)).reasonAgainstSwap(1, 0),
                SeesawMarket.WOULD_TIP);
        Expect.same("the second tips", Markets.of(String.format(heads, 21, 1)).reasonAgainstSwap(0, 1),
                SeesawMarket.WOULD_TIP);
        Expect.same("the second of the other tips", Markets.of(String.format(heads, 21, 1)).reasonAgainstSwap(1, 0),
                SeesawMarket.WOULD_TIP);
    }

    private static void promise36Refuses() {
        for (int number : new int[] {-1, 4, Integer.MAX_VALUE}) {
            Expect.noIndex("one", Markets::first, market -> market.reasonAgainstSwap(number, ANN));
            Expect.noIndex("other", Markets::first, market -> market.reasonAgainstSwap(ANN, number));
            Expect.noIndex("both", Markets::first, market -> market.reasonAgainstSwap(number, number));
        }
        Expect.noArgument("with itself", Markets::first, market -> market.reasonAgainstSwap(ANN, ANN));
        Expect.noArgument("with itself without a seat", Markets::first, market -> market.reasonAgainstSwap(DAN, DAN));
    }

    private static void promise37UnitPrice() {
        SeesawMarket market = Markets.first();
        Expect.same("level seats", market.weightUnitPrice(ANN, BOB), 2);
        Expect.same("a lower buyer on another board", market.weightUnitPrice(ANN, CAT), 1);
        Expect.same("a higher buyer on another board", market.weightUnitPrice(CAT, ANN), 3);
        Expect.same("of itself", market.weightUnitPrice(ANN, ANN), 2);
        SeesawMarket steep = steep(0, 0, 99);
        Expect.same("at least 1", steep.weightUnitPrice(1, 0), 1);
        Expect.same("from the low to the high one", steep.weightUnitPrice(0, 1), 45);
        Expect.same("of itself at a price of 0", steep.weightUnitPrice(0, 0), 1);
    }

    private static void promise37Refuses() {
        for (int number : new int[] {-1, 4, Integer.MIN_VALUE}) {
            Expect.noIndex("seller", Markets::first, market -> market.weightUnitPrice(number, DAN));
            Expect.noIndex("buyer", Markets::first, market -> market.weightUnitPrice(DAN, number));
        }
        Expect.noState("a seller without a seat", Markets::first, market -> market.weightUnitPrice(DAN, ANN));
        Expect.noState("a buyer without a seat", Markets::first, market -> market.weightUnitPrice(ANN, DAN));
        Expect.noState("of itself without a seat", Markets::first, market -> market.weightUnitPrice(DAN, DAN));
    }

    private static void promise38BestSeat() {
        // With a alone the incomes on the seats -2 to 2 would be 18 each: of equal ones the smallest is due.
        SeesawMarket empty = Markets.of("market 0 0 0 99 0 0; board 2 1 999; trader a 9 9 0;");
        Expect.same("each seat is low: the nearest", empty.bestSeat(0, 0), -1);
        SeesawMarket level = Markets.of("market 0 0 0 99 0 0; board 2 99 999; trader a 9 9 0;");
        Expect.same("each seat is level: the smallest", level.bestSeat(0, 0), -2);
        SeesawMarket heavy = Markets.of("market 5 0 0 99 0 0; board 3 4 999; trader a 4 99 0; trader b 40 9 0;"
                + "seat b 0 right 1;");
        // Tilts after the purchase: 7 at -3, 8 at -2, 9 at -1: the incomes are 5 + 21, 5 + 16, 5 + 9.
        Expect.same("the highest after the purchase", heavy.bestSeat(0, 0), -3);
        Expect.same("a poor one takes what it can pay", Markets.after("market 5 0 0 99 0 0; board 3 4 999; trader a 4 20 0;"
                + "trader b 40 9 0; seat b 0 right 1;", "wage 0;").bestSeat(0, 0), -2);
        Expect.same("a seat that would tip is none", Markets.of("market 0 0 0 99 0 0; board 2 1 10; trader a 9 99 0;"
                + "trader b 2 9 0; seat b 0 left 1;").bestSeat(0, 0), 1);
        Expect.same("its own seat is none", Markets.of("market 0 0 0 99 0 0; board 1 1 99; trader a 9 99 0; seat a 0 left 1;")
                .bestSeat(0, 0), 1);
        // Without its present seat, -1 and 1 would be -9 for a; with it, 1 would be level and -1 lower.
        Expect.same("its present seat is left", Markets.of("market 0 0 0 99 0 0; board 2 1 99; trader a 9 99 0;"
                + "seat a 0 left 2;").bestSeat(0, 0), -1);
        Expect.same("too poor for each", Markets.of("market 0 1 0 99 0 0; board 2 1 99; trader a 9 1 0;").bestSeat(0, 0), 0);
        SeesawMarket market = Markets.first();
        market.advance(3);
        Expect.same("retired", market.bestSeat(CAT, 0), 0);
    }

    private static void promise38Refuses() {
        for (int number : new int[] {-1, 2, Integer.MAX_VALUE}) {
            Expect.noIndex("board", Markets::first, market -> market.bestSeat(DAN, number));
        }
        Expect.noIndex("a retired trader and no board", () -> Markets.after(Markets.FIRST_SETUP, "days 3;"),
                market -> market.bestSeat(CAT, 2));
    }
}
