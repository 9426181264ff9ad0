/** The boundary cases that the document's terms name: one day with its four steps, and events. */
public final class DayBoundaryTest {
    private static final String HEAD = "market 0 0 0 99 0 0;";

    public static void main(String[] args) {
        Sentences.term("The day increases by 1.", DayBoundaryTest::theDayIncreases);
        Sentences.term("Each seated trader, in ascending order, has an income: the wage plus the height of its seat.",
                DayBoundaryTest::incomesInAscendingOrder);
        Sentences.term("A positive income is paid by the bank, as far as the coins of the bank suffice.",
                DayBoundaryTest::theBankPaysWhatItHas);
        Sentences.term("A negative income is paid by the trader to the bank, as far as the purse suffices.",
                DayBoundaryTest::theTraderPaysWhatItHas);
        Sentences.term("The age of each present trader increases by 1.", DayBoundaryTest::presentTradersAge);
        Sentences.term("A trader whose age is greater than the retirement age then retires: it leaves its seat, and the coins of "
                + "its purse go to the bank.", DayBoundaryTest::retirementBeyondTheAge);
        Sentences.term("For each board in ascending order: while it tips, the trader who sits farthest from position 0 on the "
                + "heavier side falls off.", DayBoundaryTest::fallsWhileTheBoardTips);
        Sentences.term("The heavier side is the right one if the torque is positive, and the left one if it is negative.",
                DayBoundaryTest::theHeavierSide);
        Sentences.term("A trader who falls off has no seat, and pays the fall fine to the bank, as far as the purse suffices.",
                DayBoundaryTest::theFineIsPaidAsFarAsPossible);
        Sentences.term("Retirements and falls are events. The latest 12 events are kept.", DayBoundaryTest::twelveEvents);
        Expect.end();
    }

    private static SeesawMarket afterDay(String setup) {
        SeesawMarket market = Markets.of(setup);
        market.advance(1);
        return market;
    }

    private static String coins(SeesawMarket market) {
        StringBuilder coins = new StringBuilder();
        for (int trader = 0; trader < market.traderCount(); trader++) {
            coins.append(market.purseOf(trader)).append(' ');
        }
        return coins.append("bank ").append(market.bank()).toString();
    }

    private static void theDayIncreases() {
        SeesawMarket market = Markets.of(HEAD);
        Expect.same("at first", market.day(), 0);
        market.advance(1);
        Expect.same("after a day", market.day(), 1);
        market.advance(30);
        Expect.same("after thirty more", market.day(), 31);
    }

    private static void incomesInAscendingOrder() {
        // At a tilt of 1 low pays 2 coins and high receives 1; the bank has none of its own.
        String seats = "board 2 2 999; trader %s 0; trader %s 0; seat low 0 right 2; seat high 0 left 1;";
        Expect.same("the payer first", coins(afterDay(HEAD + String.format(seats, "low 3 9", "high 3 5"))), "7 6 bank 1");
        Expect.same("the payer last", coins(afterDay(HEAD + String.format(seats, "high 3 5", "low 3 9"))), "5 7 bank 2");
        String three = "market 3 0 0 99 0 4; board 2 99 9; trader a 1 0 0; trader b 1 0 0; trader c 1 0 0;";
        Expect.same("the bank is empty after b", coins(afterDay(three + "seat c 0 left 1; seat b 0 left 2; seat a 0 right 1;")),
                "3 1 0 bank 0");
        Expect.same("a trader without a seat has none", coins(afterDay(three + "seat b 0 left 2;")), "0 3 0 bank 1");
        Expect.same("nobody has a seat", coins(afterDay(three)), "0 0 0 bank 4");
    }

    private static void theBankPaysWhatItHas() {
        String setup = "market 3 0 0 99 0 %d; board 1 99 9; trader a 1 5 0; seat a 0 left 1;";
        Expect.same("one coin more", coins(afterDay(String.format(setup, 4))), "8 bank 1");
        Expect.same("just enough", coins(afterDay(String.format(setup, 3))), "8 bank 0");
        Expect.same("one coin less", coins(afterDay(String.format(setup, 2))), "7 bank 0");
        Expect.same("an empty bank", coins(afterDay(String.format(setup, 0))), "5 bank 0");
    }

    private static void theTraderPaysWhatItHas() {
        String setup = "market %d 0 0 99 0 7; board 1 1 9; trader a 2 %d 0; seat a 0 right 1;";
        Expect.same("one coin more", coins(afterDay(String.format(setup, 0, 3))), "1 bank 9");
        Expect.same("just enough", coins(afterDay(String.format(setup, 0, 2))), "0 bank 9");
        Expect.same("one coin less", coins(afterDay(String.format(setup, 0, 1))), "0 bank 8");
        Expect.same("an empty purse", coins(afterDay(String.format(setup, 0, 0))), "0 bank 7");
        Expect.same("an income of -1", coins(afterDay(String.format(setup, 1, 3))), "2 bank 8");
        Expect.same("an income of 0", coins(afterDay(String.format(setup, 2, 3))), "3 bank 7");
        Expect.same("an income of 1", coins(afterDay(String.format(setup, 3, 3))), "4 bank 6");
    }

    private static void presentTradersAge() {
        SeesawMarket market = Markets.of("market 0 0 0 1 0 0; board 1 1 9; trader a 1 1 0; trader b 1 1 1; seat a 0 left 1;");
        market.advance(1);
        Expect.same("a present one", market.ageOf(0), 1);
        Expect.same("one that retires", market.ageOf(1), 2);
        market.advance(30);
        Expect.same("the first one retired a day later", market.ageOf(0), 2);
        Expect.same("a retired one", market.ageOf(1), 2);
    }

    private static void retirementBeyondTheAge() {
        String setup = "market 0 0 0 %d 0 5; board 1 99 99; trader a 1 %d %d; seat a 0 left 1;";
        SeesawMarket below = afterDay(String.format(setup, 9, 7, 7));
        Expect.same("younger than the retirement age", below.isPresent(0), true);
        SeesawMarket at = afterDay(String.format(setup, 9, 7, 8));
        Expect.same("at the retirement age", at.isPresent(0), true);
        Expect.same("it keeps its coins", coins(at), "7 bank 5");
        Expect.same("it keeps its seat", at.seatOwner(0, -1), 0);
        SeesawMarket beyond = afterDay(String.format(setup, 9, 7, 9));
        Expect.same("beyond the retirement age", beyond.isPresent(0), false);
        Expect.same("its coins", coins(beyond), "0 bank 12");
        Expect.same("its seat", beyond.seatOwner(0, -1), SeesawMarket.NONE);
        Expect.same("its board", beyond.boardOf(0), SeesawMarket.NONE);
        Expect.same("an empty purse", coins(afterDay(String.format(setup, 9, 0, 9))), "0 bank 5");
        Expect.same("the least retirement age", afterDay(String.format(setup, 1, 0, 0)).isPresent(0), true);
        Expect.same("beyond the least", afterDay(String.format(setup, 1, 0, 1)).isPresent(0), false);
        Expect.same("the greatest retirement age", afterDay(String.format(setup, 999, 0, 998)).isPresent(0), true);
        Expect.same("beyond the greatest", afterDay(String.format(setup, 999, 0, 999)).isPresent(0), false);
    }

    private static void fallsWhileTheBoardTips() {
        // The torques are 14, 8 without c, 4 without b and 0 without a.
        String setup = HEAD + "board 3 99 %d; trader a 4 0 0; trader b 2 0 0; trader c 2 0 0; seat a 0 right 1;"
                + "seat b 0 right 2; seat c 0 right 3;";
        int[][] fallsAtLimits = {{15, 0}, {14, 0}, {13, 1}, {8, 1}, {7, 2}, {4, 2}, {3, 3}, {0, 3}};
        for (int[] row : fallsAtLimits) {
            SeesawMarket market = Markets.of(String.format(setup, row[0]));
            Expect.same("falls at a limit of " + row[0], market.advance(1), row[1]);
            Expect.same("the torque is within " + row[0], market.torque(0) <= row[0], true);
        }
        Expect.same("the farthest first", Markets.events(afterDay(String.format(setup, 0))),
                "fall 0 on 1; fall 1 on 1; fall 2 on 1;");
        Expect.same("an empty board does not tip", Markets.of(HEAD + "board 6 1 0;").advance(30), 0);
        Expect.same("the lower board first", Markets.events(afterDay(HEAD + "board 1 1 0; board 1 1 0; trader a 1 0 0;"
                + "trader b 1 0 0; seat a 1 left 1; seat b 0 left 1;")), "fall 0 on 1; fall 1 on 1;");
    }

    private static void theHeavierSide() {
        String setup = HEAD + "board 3 99 5; trader a 9 0 0; trader b 1 0 0; seat a 0 %s 1; seat b 0 %s 3;";
        Expect.same("a torque of 6", Markets.events(afterDay(String.format(setup, "right", "left"))), "fall 0 on 1;");
        Expect.same("a torque of -6", Markets.events(afterDay(String.format(setup, "left", "right"))), "fall 0 on 1;");
        String level = HEAD + "board 3 99 0; trader a 3 0 0; trader b 1 0 0; seat a 0 right 1; seat b 0 left 3;";
        Expect.same("a torque of 0", Markets.events(afterDay(level)), "");
    }

    private static void theFineIsPaidAsFarAsPossible() {
        String setup = "market 0 0 0 99 %d 1; board 1 99 0; trader a 1 %d 0; seat a 0 left 1;";
        Expect.same("one coin more", coins(afterDay(String.format(setup, 5, 6))), "1 bank 6");
        Expect.same("just enough", coins(afterDay(String.format(setup, 5, 5))), "0 bank 6");
        Expect.same("one coin less", coins(afterDay(String.format(setup, 5, 4))), "0 bank 5");
        Expect.same("an empty purse", coins(afterDay(String.format(setup, 5, 0))), "0 bank 1");
        Expect.same("the least fine", coins(afterDay(String.format(setup, 0, 6))), "6 bank 1");
        Expect.same("the greatest fine", coins(afterDay(String.format(setup, 999, 1000))), "1 bank 1000");
        Expect.same("no seat", afterDay(String.format(setup, 5, 6)).boardOf(0), SeesawMarket.NONE);
        Expect.same("a free seat", afterDay(String.format(setup, 5, 6)).seatOwner(0, -1), SeesawMarket.NONE);
    }

    private static void twelveEvents() {
        StringBuilder setup = new StringBuilder("market 0 0 0 20 0 0;");
        for (int trader = 0; trader < 13; trader++) {
            setup.append("trader ").append((char) ('a' + trader)).append(" 1 1 ").append(20 - trader).append(';');
        }
        SeesawMarket market = Markets.of(setup.toString());
        Expect.same("no event", market.eventKind(0), SeesawMarket.NONE);
        market.advance(11);
        Expect.same("the eldest of eleven", market.eventTrader(10), 0);
        Expect.same("behind eleven", market.eventTrader(11), SeesawMarket.NONE);
        market.advance(1);
        Expect.same("the eldest of twelve", market.eventTrader(11), 0);
        market.advance(1);
        Expect.same("the latest of thirteen", market.eventTrader(0), 12);
        Expect.same("the eldest that is kept", market.eventTrader(11), 1);
        Expect.same("behind twelve", market.eventTrader(12), SeesawMarket.NONE);
    }
}
