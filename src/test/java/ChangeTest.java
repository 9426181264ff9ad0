/** Promises 52 to 57: changes. DayTest has promise 58. */
public final class ChangeTest {
    private static final int ANN = Markets.ANN;
    private static final int BOB = Markets.BOB;
    private static final int CAT = Markets.CAT;
    private static final int DAN = Markets.DAN;

    public static void main(String[] args) {
        promise52JoinAddsATrader();
        promise52JoinRefusesNumbers();
        promise52JoinRefusesNames();
        promise52JoinRefusesTrader25();
        promise53BuySeat();
        promise53BuySeatFreesTheFormerSeat();
        promise53BuySeatRefuses();
        promise54LeaveSeat();
        promise54LeaveSeatRefuses();
        promise55SellWeight();
        promise55SellWeightRefuses();
        promise56SwapSeats();
        promise56SwapSeatsOfTwoBoards();
        promise56SwapSeatsRefuses();
        promise57SetWage();
        promise57SetWageRefuses();
        Expect.end();
    }

    private static String trader(SeesawMarket market, int trader) {
        return Markets.name(market, trader) + " " + market.weightOf(trader) + " " + market.purseOf(trader) + " "
                + market.ageOf(trader) + " " + market.boardOf(trader) + " " + market.positionOf(trader);
    }

    private static SeesawMarket withText(String text) {
        SeesawMarket market = Markets.first();
        Markets.write(market, text);
        return market;
    }

    private static void promise52JoinAddsATrader() {
        SeesawMarket market = Markets.first();
        Expect.same("join", Markets.join(market, "eve", 99, 9999), 4);
        Expect.same("eve", trader(market, 4), "eve 99 9999 0 -1 0");
        Expect.same("present", market.isPresent(4), true);
        Expect.same("the buffer is empty", Markets.bufferLength(market), 0);
        Expect.same("join", Markets.join(market, "f", 1, 0), 5);
        Expect.same("f", trader(market, 5), "f 1 0 0 -1 0");
        Expect.same("the bank has no part in it", market.bank(), 200);
        Expect.same("no contradiction", market.contradictions(), 0);
        Expect.same("two changes", market.undoCount(), 2);
        Expect.same("undo", market.undo(), 1);
        Expect.same("five are left", market.traderCount(), 5);
        Expect.same("the name is free again", Markets.join(market, "f", 2, 3), 5);
        Expect.same("another f", trader(market, 5), "f 2 3 0 -1 0");
    }

    private static void promise52JoinRefusesNumbers() {
        Expect.noArgument("weight 0", () -> withText("eve"), market -> market.join(0, 1));
        Expect.noArgument("weight 100", () -> withText("eve"), market -> market.join(100, 1));
        Expect.noArgument("purse -1", () -> withText("eve"), market -> market.join(1, -1));
        Expect.noArgument("purse 10000", () -> withText("eve"), market -> market.join(1, 10000));
        Expect.noArgument("the weight comes before the name", () -> withText("ann"), market -> market.join(0, 1));
        Expect.noArgument("the purse comes before the name", () -> withText(""), market -> market.join(1, 10000));
    }

    private static void promise52JoinRefusesNames() {
        String[] names = {"", "abcdefg", "Eve", "e e", "eve ", " eve", "eve1", "1", "`", "{", "e\u00e9", "ann", "dan"};
        for (String name : names) {
            Expect.noState("join of " + name, () -> withText(name), market -> market.join(1, 1));
        }
        Expect.noState("a retired one's name", () -> {
            SeesawMarket market = Markets.after(Markets.FIRST_SETUP, "days 3;");
            Markets.write(market, "cat");
            return market;
        }, market -> market.join(1, 1));
        Expect.same("a part of a name", Markets.join(Markets.first(), "an", 1, 1), 4);
        Expect.same("a name and more", Markets.join(Markets.first(), "anna", 1, 1), 4);
        Expect.same("az", Markets.join(Markets.first(), "az", 1, 1), 4);
    }

    private static SeesawMarket with(int traders) {
        SeesawMarket market = Markets.first();
        for (int trader = 4; trader < traders; trader++) {
            Markets.join(market, "x" + (char) ('a' + trader), 1, 1);
        }
        Markets.write(market, "new");
        return market;
    }

    private static void promise52JoinRefusesTrader25() {
        Expect.same("trader 24", with(23).join(1, 1), 23);
        Expect.noState("trader 25", () -> with(24), market -> market.join(1, 1));
        Expect.noArgument("trader 25 without weight", () -> with(24), market -> market.join(0, 1));
    }

    private static void promise53BuySeat() {
        SeesawMarket market = Markets.first();
        Expect.same("price", market.buySeat(DAN, 0, 1), 5);
        Expect.same("dan", trader(market, DAN), "dan 15 35 5 0 1");
        Expect.same("bank", market.bank(), 205);
        Expect.same("owner", market.seatOwner(0, 1), DAN);
        Expect.same("sold", market.seatsSold(), 1);
        Expect.same("a high seat", market.buySeat(CAT, 0, -1), 6);
        Expect.same("cat", trader(market, CAT), "cat 8 6 38 0 -1");
        Expect.same("bank", market.bank(), 211);
    }

    private static void promise53BuySeatFreesTheFormerSeat() {
        SeesawMarket market = Markets.first();
        Expect.same("on the same board", market.buySeat(ANN, 0, -3), 7);
        Expect.same("board 0", Markets.board(market, 0), "ann . . ^ . . bob");
        Expect.same("to another board", market.buySeat(BOB, 1, -2), 8);
        Expect.same("board 0 without bob", Markets.board(market, 0), "ann . . ^ . . .");
        Expect.same("board 1 with bob", Markets.board(market, 1), "bob . ^ cat .");
        Expect.same("torque 0", market.torque(0), -30);
        Expect.same("torque 1", market.torque(1), -4);
        Expect.same("changes", market.undoCount(), 2);
        // The price is the one of the present tilt, with the buyer on its present seat.
        SeesawMarket steep = Markets.of("market 0 0 0 9 0 0; board 2 1 99; trader a 3 50 0; seat a 0 right 2;");
        Expect.same("price of the other side", steep.buySeat(0, 0, -2), 2 + 12);
        Expect.same("purse", steep.purseOf(0), 36);
    }

    private static void promise53BuySeatRefuses() {
        for (int number : new int[] {-1, 4, Integer.MAX_VALUE}) {
            Expect.noIndex("trader", Markets::first, market -> market.buySeat(number, 0, 1));
            Expect.noIndex("board", Markets::first, market -> market.buySeat(DAN, number, 1));
        }
        for (int position : new int[] {0, -3, 3, Integer.MIN_VALUE}) {
            Expect.noIndex("position", Markets::first, market -> market.buySeat(DAN, 1, position));
        }
        Expect.noState("taken", Markets::first, market -> market.buySeat(DAN, 0, 3));
        Expect.noState("its own seat", Markets::first, market -> market.buySeat(ANN, 0, -2));
        Expect.noState("would tip", Markets::first, market -> market.buySeat(DAN, 1, 2));
        Expect.noState("too poor", () -> Markets.of("market 0 9 0 9 0 0; board 1 1 9; trader a 1 9 0;"),
                market -> market.buySeat(0, 0, 1));
        Expect.noState("retired", () -> Markets.after(Markets.FIRST_SETUP, "days 3;"), market -> market.buySeat(CAT, 1, 1));
        Expect.noIndex("retired and no seat", () -> Markets.after(Markets.FIRST_SETUP, "days 3;"),
                market -> market.buySeat(CAT, 1, 0));
    }

    private static void promise54LeaveSeat() {
        SeesawMarket market = Markets.first();
        Expect.same("board of cat", market.leaveSeat(CAT), 1);
        Expect.same("board of ann", market.leaveSeat(ANN), 0);
        Expect.same("cat", trader(market, CAT), "cat 8 12 38 -1 0");
        Expect.same("seat", market.seatOwner(1, 1), SeesawMarket.NONE);
        Expect.same("board 0", Markets.board(market, 0), ". . . ^ . . bob");
        Expect.same("changes", market.undoCount(), 2);
        // Leaving may leave a board that tips at the end of the day.
        SeesawMarket tipping = Markets.of("market 0 0 0 9 0 0; board 1 9 2; trader a 3 1 0; trader b 3 1 0;"
                + "seat a 0 left 1; seat b 0 right 1;");
        Expect.same("leave", tipping.leaveSeat(0), 0);
        Expect.same("b sits", tipping.boardOf(1), 0);
        Expect.same("b falls", tipping.advance(1), 1);
    }

    private static void promise54LeaveSeatRefuses() {
        for (int trader : new int[] {-1, 4, Integer.MIN_VALUE}) {
            Expect.noIndex("leave of " + trader, Markets::first, market -> market.leaveSeat(trader));
        }
        Expect.noState("no seat", Markets::first, market -> market.leaveSeat(DAN));
        Expect.noState("retired", () -> Markets.after(Markets.FIRST_SETUP, "days 3;"), market -> market.leaveSeat(CAT));
    }

    private static void promise55SellWeight() {
        SeesawMarket market = Markets.first();
        Expect.same("coins", market.sellWeight(BOB, ANN, 5), 10);
        Expect.same("ann", trader(market, ANN), "ann 15 20 0 0 -2");
        Expect.same("bob", trader(market, BOB), "bob 1 35 12 0 3");
        Expect.same("bank", market.bank(), 200);
        Expect.same("torque", market.torque(0), -27);
        Expect.same("sold", market.weightSold(), 5);
        // Now the tilt is -2: ann sits at -4 and bob at 6.
        Expect.same("coins of a high buyer", market.sellWeight(ANN, BOB, 2), 24);
        Expect.same("ann", trader(market, ANN), "ann 13 44 0 0 -2");
        Expect.same("sold", market.weightSold(), 7);
        Expect.same("changes", market.undoCount(), 2);
    }

    private static void promise55SellWeightRefuses() {
        for (int trader : new int[] {-1, 4, Integer.MAX_VALUE}) {
            Expect.noIndex("seller", Markets::first, market -> market.sellWeight(trader, ANN, 0));
            Expect.noIndex("buyer", Markets::first, market -> market.sellWeight(ANN, trader, 51));
            Expect.noIndex("both", Markets::first, market -> market.sellWeight(trader, trader, 1));
        }
        Expect.noArgument("to itself", Markets::first, market -> market.sellWeight(ANN, ANN, 1));
        Expect.noArgument("to itself without a seat", Markets::first, market -> market.sellWeight(DAN, DAN, 1));
        Expect.noArgument("0 units", Markets::first, market -> market.sellWeight(ANN, BOB, 0));
        Expect.noArgument("51 units without a seat", Markets::first, market -> market.sellWeight(ANN, DAN, 51));
        Expect.noState("no seat", Markets::first, market -> market.sellWeight(ANN, DAN, 1));
        Expect.noState("different boards", Markets::first, market -> market.sellWeight(ANN, CAT, 1));
        Expect.noState("all its weight", Markets::first, market -> market.sellWeight(BOB, ANN, 6));
        Expect.noState("too poor", () -> Markets.of("market 0 0 9 9 0 0; board 1 9 99; trader a 9 9 0; trader b 9 8 0;"
                + "seat a 0 left 1; seat b 0 right 1;"), market -> market.sellWeight(0, 1, 1));
        Expect.noState("would tip", () -> Markets.of("market 0 0 1 9 0 0; board 1 9 1; trader a 9 9 0; trader b 9 9 0;"
                + "seat a 0 left 1; seat b 0 right 1;"), market -> market.sellWeight(0, 1, 1));
    }

    private static SeesawMarket steep() {
        // A torque of 20 at a stiffness of 2 is a tilt of 9; the heights are -27 and 18.
        return Markets.of("market 0 0 0 99 0 0; board 3 2 99; trader low 8 50 0; trader high 2 7 0;"
                + "seat low 0 right 3; seat high 0 left 2;");
    }

    private static void promise56SwapSeats() {
        SeesawMarket market = steep();
        Expect.same("the first pays", market.swapSeats(0, 1), 45);
        Expect.same("low", trader(market, 0), "low 8 5 0 0 -2");
        Expect.same("high", trader(market, 1), "high 2 52 0 0 3");
        Expect.same("board", Markets.board(market, 0), ". low . ^ . . high");
        Expect.same("torque", market.torque(0), -10);
        Expect.same("changes", market.undoCount(), 1);
        SeesawMarket other = steep();
        Expect.same("the other pays", other.swapSeats(1, 0), -45);
        Expect.same("the state is the same", Markets.state(other), Markets.state(market));
        SeesawMarket level = Markets.first();
        Expect.same("level seats", level.swapSeats(ANN, BOB), 0);
        Expect.same("board", Markets.board(level, 0), ". bob . ^ . . ann");
        Expect.same("no seat was sold", level.seatsSold(), 0);
    }

    private static void promise56SwapSeatsOfTwoBoards() {
        SeesawMarket market = Markets.first();
        // Cat sits at -1 and ann at 0.
        Expect.same("cat pays", market.swapSeats(ANN, CAT), -1);
        Expect.same("ann", trader(market, ANN), "ann 10 31 0 1 1");
        Expect.same("cat", trader(market, CAT), "cat 8 11 38 0 -2");
        Expect.same("board 0", Markets.board(market, 0), ". cat . ^ . . bob");
        Expect.same("board 1", Markets.board(market, 1), ". . ^ ann .");
        Expect.same("torque 0", market.torque(0), 2);
        Expect.same("torque 1", market.torque(1), 10);
        Expect.same("bank", market.bank(), 200);
    }

    private static void promise56SwapSeatsRefuses() {
        for (int trader : new int[] {-1, 4, Integer.MIN_VALUE}) {
            Expect.noIndex("one", Markets::first, market -> market.swapSeats(trader, ANN));
            Expect.noIndex("other", Markets::first, market -> market.swapSeats(ANN, trader));
            Expect.noIndex("both", Markets::first, market -> market.swapSeats(trader, trader));
        }
        Expect.noArgument("with itself", Markets::first, market -> market.swapSeats(BOB, BOB));
        Expect.noArgument("with itself without a seat", Markets::first, market -> market.swapSeats(DAN, DAN));
        Expect.noState("no seat", Markets::first, market -> market.swapSeats(ANN, DAN));
        Expect.noState("no seat of the first", Markets::first, market -> market.swapSeats(DAN, ANN));
        String heads = "market 0 0 0 99 0 0; board 3 2 %s; trader low 8 %s 0; trader high 2 7 0; seat low 0 right 3;"
                + "seat high 0 left 2;";
        Expect.noState("would tip", () -> Markets.of(String.format(heads, 9, 45)), market -> market.swapSeats(0, 1));
        Expect.noState("too poor", () -> Markets.of(String.format(heads, 99, 44)), market -> market.swapSeats(1, 0));
    }

    private static void promise57SetWage() {
        SeesawMarket market = Markets.first();
        Expect.same("previous wage", market.setWage(20), 3);
        Expect.same("wage", market.wage(), 20);
        Expect.same("previous wage", market.setWage(0), 20);
        Expect.same("wage", market.wage(), 0);
        Expect.same("the same wage", market.setWage(0), 0);
        Expect.same("changes", market.undoCount(), 3);
        market.setWage(20);
        Expect.same("income", market.incomeOf(ANN), 20);
        market.advance(1);
        Expect.same("purse", market.purseOf(ANN), 50);
    }

    private static void promise57SetWageRefuses() {
        Expect.noArgument("wage -1", Markets::first, market -> market.setWage(-1));
        Expect.noArgument("wage 21", Markets::first, market -> market.setWage(21));
        Expect.noArgument("the least wage", Markets::first, market -> market.setWage(Integer.MIN_VALUE));
    }
}
