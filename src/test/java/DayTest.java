/** One day: its four steps, their order, and promise 58, by which days pass. */
public final class DayTest {
    public static void main(String[] args) {
        theDayIncreases();
        incomesArePaidByTheBankAsFarAsItSuffices();
        negativeIncomesArePaidAsFarAsThePurseSuffices();
        incomesArePaidInAscendingOrder();
        incomesComeBeforeRetirements();
        retirementsComeBeforeFalls();
        thePresentAge();
        theFarthestOnTheHeavierSideFalls();
        aWholeBoardMayFall();
        boardsTipInAscendingOrder();
        theFineIsPaidAsFarAsThePurseSuffices();
        aBoardTipsBeyondItsLimitOnly();
        promise58AdvanceCountsTheFallsOfItsDays();
        promise58AdvanceRefuses();
        Expect.end();
    }

    private static SeesawMarket afterDays(String setup, int days) {
        SeesawMarket market = Markets.of(setup);
        market.advance(days);
        return market;
    }

    private static String purses(SeesawMarket market) {
        StringBuilder purses = new StringBuilder();
        for (int trader = 0; trader < market.traderCount(); trader++) {
            purses.append(market.purseOf(trader)).append(' ');
        }
        return purses.append("bank ").append(market.bank()).toString();
    }

    private static void theDayIncreases() {
        SeesawMarket market = Markets.first();
        market.advance(1);
        Expect.same("day", market.day(), 1);
        market.advance(30);
        Expect.same("day", market.day(), 31);
    }

    private static final String LEVEL = "board 2 99 999; board 2 99 999; trader a 1 10 0; trader b 1 10 0; trader c 1 10 0;"
            + "trader d 1 10 0; seat a 0 left 1; seat b 1 right 2; seat d 0 right 1;";

    private static void incomesArePaidByTheBankAsFarAsItSuffices() {
        Expect.same("enough", purses(afterDays("market 7 0 0 99 0 22;" + LEVEL, 1)), "17 17 10 17 bank 1");
        Expect.same("just enough", purses(afterDays("market 7 0 0 99 0 21;" + LEVEL, 1)), "17 17 10 17 bank 0");
        Expect.same("not enough for d", purses(afterDays("market 7 0 0 99 0 16;" + LEVEL, 1)), "17 17 10 12 bank 0");
        Expect.same("not enough for b", purses(afterDays("market 7 0 0 99 0 9;" + LEVEL, 1)), "17 12 10 10 bank 0");
        Expect.same("nothing", purses(afterDays("market 7 0 0 99 0 0;" + LEVEL, 2)), "10 10 10 10 bank 0");
        Expect.same("not even one coin", purses(afterDays("market 1 0 0 99 0 1;" + LEVEL, 2)), "11 10 10 10 bank 0");
        Expect.same("no wage", purses(afterDays("market 0 0 0 99 0 5;" + LEVEL, 2)), "10 10 10 10 bank 5");
    }

    /** A torque of 4 at a stiffness of 2 is a tilt of 2. */
    private static String sloping(int wage, int purse, int bank) {
        return "market " + wage + " 0 0 99 0 " + bank + "; board 2 2 999; trader low 3 " + purse
                + " 0; trader high 2 5 0; seat low 0 right 2; seat high 0 left 1;";
    }

    private static void negativeIncomesArePaidAsFarAsThePurseSuffices() {
        Expect.same("incomes of -3 and 3", purses(afterDays(sloping(1, 9, 1), 1)), "6 8 bank 1");
        Expect.same("just enough", purses(afterDays(sloping(1, 3, 1), 1)), "0 8 bank 1");
        Expect.same("too poor", purses(afterDays(sloping(1, 2, 1), 1)), "0 8 bank 0");
        Expect.same("nothing", purses(afterDays(sloping(1, 0, 4), 1)), "0 8 bank 1");
        Expect.same("an income of 0", purses(afterDays(sloping(4, 5, 4), 1)), "5 9 bank 0");
        Expect.same("four days", purses(afterDays(sloping(1, 7, 0), 4)), "0 12 bank 0");
    }

    private static void incomesArePaidInAscendingOrder() {
        String both = "market 0 0 0 99 0 0; board 2 2 999; trader %s 0; trader %s 0; seat low 0 right 2; seat high 0 left 1;";
        Expect.same("the payer first", purses(afterDays(String.format(both, "low 3 9", "high 2 5"), 1)), "5 7 bank 2");
        Expect.same("the payer last", purses(afterDays(String.format(both, "high 2 5", "low 3 9"), 1)), "5 5 bank 4");
    }

    private static void incomesComeBeforeRetirements() {
        SeesawMarket market = afterDays("market 5 0 0 9 0 7; board 1 9 99; trader a 1 10 9; seat a 0 left 1;", 1);
        Expect.same("the last income goes back", purses(market), "0 bank 17");
        Expect.same("retired", market.isPresent(0), false);
        Expect.same("the seat is free", market.seatOwner(0, -1), SeesawMarket.NONE);
    }

    private static void retirementsComeBeforeFalls() {
        String heads = "market 0 0 0 9 0 0; board 2 9 5; trader a 4 10 0; trader b 4 10 %d; seat a 0 right 2; seat b 0 %s;";
        SeesawMarket falls = afterDays(String.format(heads, 9, "left 1"), 1);
        Expect.same("b held the board", falls.boardOf(0), SeesawMarket.NONE);
        SeesawMarket holds = afterDays(String.format(heads, 9, "right 1"), 1);
        Expect.same("a falls by its own weight", holds.boardOf(0), SeesawMarket.NONE);
        SeesawMarket saved = afterDays("market 0 0 0 9 0 0; board 2 9 5; trader a 4 10 9; trader b 5 10 0;"
                + "seat a 0 right 2; seat b 0 right 1;", 1);
        Expect.same("the retirement of a saves b", saved.boardOf(1), 0);
        Expect.same("no fall", saved.fallCount(), 0);
        Expect.same("only the retirement", Markets.events(saved), "retirement 0 on 1;");
    }

    private static void thePresentAge() {
        SeesawMarket market = Markets.first();
        market.advance(2);
        Expect.same("at the retirement age one is present", market.isPresent(Markets.CAT), true);
        Expect.same("age", market.ageOf(Markets.CAT), 40);
        Expect.same("without a seat one ages, too", market.ageOf(Markets.DAN), 7);
        market.advance(1);
        Expect.same("beyond it one retires", market.isPresent(Markets.CAT), false);
    }

    private static void theFarthestOnTheHeavierSideFalls() {
        String seats = "market 0 0 0 99 0 0; board 3 99 %d; trader a 5 1 0; trader b 1 1 0; trader c 2 1 0; trader d 3 1 0;"
                + "seat a 0 %s 1; seat b 0 %s 3; seat c 0 %s 2; seat d 0 %s 1;";
        String right = String.format(seats, 5, "right", "right", "right", "left");
        // Torques: 5 + 3 + 4 - 3 = 9, without b 6, without c 2.
        Expect.same("right", Markets.board(afterDays(right, 1), 0), ". . d ^ a . .");
        Expect.same("right falls", Markets.events(afterDays(right, 1)), "fall 2 on 1; fall 1 on 1;");
        String left = String.format(seats, 5, "left", "left", "left", "right");
        Expect.same("left", Markets.board(afterDays(left, 1), 0), ". . a ^ d . .");
        Expect.same("left falls", Markets.events(afterDays(left, 1)), "fall 2 on 1; fall 1 on 1;");
        String both = String.format(seats, 1, "right", "right", "right", "left");
        // Without c the torque is 2, without a it is -3: then d falls on the other side.
        Expect.same("both sides", Markets.board(afterDays(both, 1), 0), ". . . ^ . . .");
        Expect.same("falls on both sides", Markets.events(afterDays(both, 1)),
                "fall 3 on 1; fall 0 on 1; fall 2 on 1; fall 1 on 1;");
    }

    private static void aWholeBoardMayFall() {
        StringBuilder setup = new StringBuilder("market 0 0 0 99 0 0; board 6 99 0;");
        for (int trader = 0; trader < 12; trader++) {
            setup.append("trader ").append((char) ('a' + trader)).append(trader < 6 ? " 1" : " 99").append(" 1 1;");
        }
        for (int trader = 0; trader < 12; trader++) {
            setup.append("seat ").append((char) ('a' + trader)).append(" 0 ").append(trader < 6 ? "left " : "right ");
            setup.append(trader % 6 + 1).append(';');
        }
        SeesawMarket market = Markets.of(setup.toString());
        Expect.same("twelve falls", market.advance(1), 12);
        Expect.same("fall count", market.fallCount(), 12);
        Expect.same("an empty board", Markets.board(market, 0), ". . . . . . ^ . . . . . .");
        Expect.same("the latest fall", market.eventTrader(0), 0);
        Expect.same("the first fall", market.eventTrader(11), 11);
    }

    private static void boardsTipInAscendingOrder() {
        SeesawMarket market = afterDays("market 0 0 0 99 0 0; board 1 1 0; board 1 1 9; board 1 1 0; trader a 1 1 0;"
                + "trader b 1 1 0; trader c 1 1 0; seat a 2 left 1; seat b 1 left 1; seat c 0 right 1;", 1);
        Expect.same("falls", Markets.events(market), "fall 0 on 1; fall 2 on 1;");
        Expect.same("b sits", market.boardOf(1), 1);
    }

    private static void theFineIsPaidAsFarAsThePurseSuffices() {
        String heads = "market 0 0 0 99 5 1; board 1 99 0; trader a 1 %d 0; seat a 0 left 1;";
        Expect.same("rich", purses(afterDays(String.format(heads, 9), 1)), "4 bank 6");
        Expect.same("just enough", purses(afterDays(String.format(heads, 5), 1)), "0 bank 6");
        Expect.same("poor", purses(afterDays(String.format(heads, 4), 1)), "0 bank 5");
        Expect.same("no second fall", purses(afterDays(String.format(heads, 9), 2)), "4 bank 6");
    }

    private static void aBoardTipsBeyondItsLimitOnly() {
        String heads = "market 0 0 0 99 0 0; board 2 99 %d; trader a 5 1 0; seat a 0 %s 2;";
        Expect.same("10 of 10", afterDays(String.format(heads, 10, "right"), 9).fallCount(), 0);
        Expect.same("10 of 9", afterDays(String.format(heads, 9, "right"), 9).fallCount(), 1);
        Expect.same("-10 of 10", afterDays(String.format(heads, 10, "left"), 9).fallCount(), 0);
        Expect.same("-10 of 9", afterDays(String.format(heads, 9, "left"), 9).fallCount(), 1);
    }

    private static void promise58AdvanceCountsTheFallsOfItsDays() {
        String heads = "market 0 0 0 20 0 0; board 3 99 9; trader a 9 1 0; trader b 9 1 19; trader c 3 1 0;"
                + "seat a 0 left 1; seat b 0 right 1; seat c 0 left 3;";
        SeesawMarket market = Markets.of(heads);
        Expect.same("a day without a fall", market.advance(1), 0);
        Expect.same("days with a fall", market.advance(3), 1);
        Expect.same("later falls are not counted again", market.advance(30), 0);
        Expect.same("all at once", Markets.of(heads).advance(30), 1);
        Expect.same("one change", market.undoCount(), 3);
        Expect.same("undo of 30 days", market.undo(), 2);
        Expect.same("day", market.day(), 4);
    }

    private static void promise58AdvanceRefuses() {
        Expect.noArgument("0 days", Markets::first, market -> market.advance(0));
        Expect.noArgument("31 days", Markets::first, market -> market.advance(31));
        Expect.noArgument("-1 days", Markets::first, market -> market.advance(-1));
        Expect.noArgument("the most days", Markets::first, market -> market.advance(Integer.MAX_VALUE));
        Expect.noState("day 10000", () -> Markets.onDay("market 0 0 0 1 0 0;", 9980), market -> market.advance(20));
        Expect.same("day 9999", Markets.onDay("market 0 0 0 1 0 0;", 9980).advance(19), 0);
        Expect.noState("beyond day 9999", () -> Markets.onDay("market 0 0 0 1 0 0;", 9999), market -> market.advance(1));
        Expect.noArgument("31 days at the end", () -> Markets.onDay("market 0 0 0 1 0 0;", 9999), market -> market.advance(31));
    }
}
