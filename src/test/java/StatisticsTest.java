/** Promises 39 to 47: statistics and events. */
public final class StatisticsTest {
    public static void main(String[] args) {
        promise39SeatsSold();
        promise40WeightSold();
        promise41FallCount();
        promise42AveragePurse();
        promise43Occupancy();
        promise44ContradictionsAreNone();
        promises45To47TellEvents();
        promises45To47KeepTwelveEvents();
        Expect.end();
    }

    private static void promise39SeatsSold() {
        SeesawMarket market = Markets.first();
        Expect.same("seats of a setup are not sold", market.seatsSold(), 0);
        market.buySeat(Markets.DAN, 0, 1);
        market.buySeat(Markets.DAN, 0, -1);
        market.swapSeats(Markets.ANN, Markets.BOB);
        market.leaveSeat(Markets.DAN);
        Expect.same("two", market.seatsSold(), 2);
        Markets.runAll(market, "buy dan 0 right 1;");
        Expect.same("three", market.seatsSold(), 3);
    }

    private static void promise40WeightSold() {
        SeesawMarket market = Markets.first();
        Expect.same("none", market.weightSold(), 0);
        market.sellWeight(Markets.BOB, Markets.ANN, 2);
        market.sellWeight(Markets.ANN, Markets.BOB, 3);
        Expect.same("five", market.weightSold(), 5);
        Markets.runAll(market, "sell bob ann 4;");
        Expect.same("nine", market.weightSold(), 9);
    }

    private static void promise41FallCount() {
        SeesawMarket market = Markets.of("market 0 0 0 1 9 9; board 3 1 5; trader a 5 0 0; trader b 5 0 0; trader c 5 0 1;"
                + "seat a 0 right 3; seat b 0 right 1; seat c 0 left 1;");
        Expect.same("none", market.fallCount(), 0);
        Expect.same("falls of the day", market.advance(1), 1);
        Expect.same("a retirement is no fall", market.fallCount(), 1);
        market.leaveSeat(1);
        Expect.same("leaving is no fall", market.fallCount(), 1);
    }

    private static void promise42AveragePurse() {
        Expect.sameDouble("(30 + 25 + 12 + 40) / 4", Markets.first().averagePurse(), 26.75);
        SeesawMarket thirds = Markets.of("market 0 0 0 9 0 0; trader a 1 9999 0; trader b 1 1 0; trader c 1 0 0;"
                + "trader d 1 7 9;");
        thirds.advance(1);
        Expect.sameDouble("without the retired one", thirds.averagePurse(), 10000.0 / 3.0);
        Expect.sameDouble("nobody", Markets.of("market 0 0 0 9 0 0;").averagePurse(), 0.0);
        thirds.advance(9);
        Expect.sameDouble("all have retired", thirds.averagePurse(), 0.0);
    }

    private static void promise43Occupancy() {
        Expect.sameFloat("3 of 10", Markets.first().occupancy(), 3.0f / 10.0f);
        SeesawMarket market = Markets.of("market 0 0 0 9 0 0; board 1 1 9; board 2 1 9; trader a 1 9 0; trader b 1 9 0;");
        Expect.sameFloat("0 of 6", market.occupancy(), 0.0f);
        market.buySeat(0, 0, 1);
        Expect.sameFloat("1 of 6", market.occupancy(), 1.0f / 6.0f);
        market.buySeat(1, 1, 2);
        Expect.sameFloat("2 of 6", market.occupancy(), 2.0f / 6.0f);
        Expect.sameFloat("no seats", Markets.of("market 0 0 0 9 0 0; trader a 1 1 1;").occupancy(), 0.0f);
        Expect.sameFloat("all seats", Markets.of("market 0 0 0 9 0 0; board 1 1 9; trader a 1 9 0; trader b 1 9 0;"
                + "seat a 0 left 1; seat b 0 right 1;").occupancy(), 1.0f);
    }

    private static void promise44ContradictionsAreNone() {
        SeesawMarket market = Markets.first();
        Expect.same("at first", market.contradictions(), 0);
        String[] scripts = {"join eve 9 77;", "buy eve 1 left 1;", "buy eve 0 right 1;", "sell eve ann 3;", "swap eve cat;",
            "days 1;", "wage 20;", "days 3;", "leave ann;", "days 30;", "days 10;"};
        for (String script : scripts) {
            Markets.runAll(market, script);
            Expect.same("after " + script, market.contradictions(), 0);
        }
        market.undo();
        Expect.same("after undo", market.contradictions(), 0);
    }

    private static void event(SeesawMarket market, int index, int kind, int trader, int day) {
        Expect.same("kind of event " + index, market.eventKind(index), kind);
        Expect.same("trader of event " + index, market.eventTrader(index), trader);
        Expect.same("day of event " + index, market.eventDay(index), day);
    }

    private static void noEvent(SeesawMarket market, int index) {
        event(market, index, SeesawMarket.NONE, SeesawMarket.NONE, SeesawMarket.NONE);
    }

    private static void promises45To47TellEvents() {
        noEvent(Markets.first(), 0);
        SeesawMarket market = Markets.of("market 0 0 0 5 9 9; board 3 1 5; board 3 9 9; trader a 9 0 3; trader b 5 0 5;"
                + "trader c 5 0 4; trader d 9 0 5; seat a 1 right 3; seat b 0 right 1; seat c 0 left 3;");
        market.advance(1);
        event(market, 0, SeesawMarket.FALL, 0, 1);
        event(market, 1, SeesawMarket.FALL, 2, 1);
        event(market, 2, SeesawMarket.RETIREMENT, 3, 1);
        event(market, 3, SeesawMarket.RETIREMENT, 1, 1);
        noEvent(market, 4);
        noEvent(market, -1);
        noEvent(market, 12);
        noEvent(market, Integer.MIN_VALUE);
        noEvent(market, Integer.MAX_VALUE);
        market.advance(2);
        event(market, 0, SeesawMarket.RETIREMENT, 0, 3);
        event(market, 1, SeesawMarket.RETIREMENT, 2, 2);
        event(market, 2, SeesawMarket.FALL, 0, 1);
        event(market, 5, SeesawMarket.RETIREMENT, 1, 1);
        noEvent(market, 6);
    }

    private static void promises45To47KeepTwelveEvents() {
        StringBuilder setup = new StringBuilder("market 0 0 0 20 0 0;");
        for (char letter = 'a'; letter <= 'n'; letter++) {
            setup.append("trader ").append(letter).append(" 1 1 ").append(20 - (letter - 'a')).append(';');
        }
        SeesawMarket market = Markets.of(setup.toString());
        market.advance(12);
        event(market, 0, SeesawMarket.RETIREMENT, 11, 12);
        event(market, 11, SeesawMarket.RETIREMENT, 0, 1);
        noEvent(market, 12);
        market.advance(2);
        event(market, 0, SeesawMarket.RETIREMENT, 13, 14);
        event(market, 1, SeesawMarket.RETIREMENT, 12, 13);
        event(market, 11, SeesawMarket.RETIREMENT, 2, 3);
        noEvent(market, 12);
        market.undo();
        event(market, 0, SeesawMarket.RETIREMENT, 11, 12);
        event(market, 11, SeesawMarket.RETIREMENT, 0, 1);
    }
}
