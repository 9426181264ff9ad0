/** Promises 8 to 22: the market's numbers, boards and seats. */
public final class BoardTest {
    private static final String SETUP = "market 7 11 13 500 17 1900; board 6 5 999; board 1 99 0; board 3 1 21;"
            + "trader a 10 50 0; trader b 3 50 0; trader c 7 50 0; trader d 1 50 0;"
            + "seat a 0 left 6; seat b 0 right 5; seat c 2 right 2; seat d 2 left 3;";

    public static void main(String[] args) {
        promises8To12TellTheMarketsNumbers();
        promises13To15TellABoardsNumbers();
        promise16TorqueIsPositionTimesWeight();
        promise17TiltIsRoundedTowardZeroAndBounded();
        promise18BalancedIsTorqueZero();
        promise19SeatOwner();
        promise20SeatHeight();
        promise21SeatPrice();
        promise22BalancingSeat();
        promise22RefusesInOrder();
        boardsAndSeatsThatAreNotThere();
        Expect.end();
    }

    private static SeesawMarket market() {
        return Markets.of(SETUP);
    }

    private static void promises8To12TellTheMarketsNumbers() {
        SeesawMarket market = market();
        Expect.same("day", market.day(), 0);
        Expect.same("bank", market.bank(), 1900);
        Expect.same("wage", market.wage(), 7);
        Expect.same("base price", market.basePrice(), 11);
        Expect.same("retirement age", market.retirementAge(), 500);
        Markets.runAll(market, "leave a; leave b; leave c; leave d; days 30; wage 9; buy a 0 left 1;");
        Expect.same("day", market.day(), 30);
        Expect.same("bank", market.bank(), 1912);
        Expect.same("wage", market.wage(), 9);
        Expect.same("base price", market.basePrice(), 11);
        Expect.same("retirement age", market.retirementAge(), 500);
    }

    private static void promises13To15TellABoardsNumbers() {
        SeesawMarket market = market();
        Expect.same("boards", market.boardCount(), 3);
        Expect.same("no boards", Markets.of("market 0 0 0 1 0 0;").boardCount(), 0);
        Expect.same("arm 0", market.armLength(0), 6);
        Expect.same("arm 1", market.armLength(1), 1);
        Expect.same("arm 2", market.armLength(2), 3);
        Expect.same("stiffness 0", market.stiffness(0), 5);
        Expect.same("stiffness 1", market.stiffness(1), 99);
        Expect.same("stiffness 2", market.stiffness(2), 1);
    }

    private static void promise16TorqueIsPositionTimesWeight() {
        SeesawMarket market = market();
        Expect.same("torque 0", market.torque(0), -45);
        Expect.same("torque 1", market.torque(1), 0);
        Expect.same("torque 2", market.torque(2), 11);
        market.leaveSeat(0);
        Expect.same("torque 0 without a", market.torque(0), 15);
    }

    private static SeesawMarket withTorque(int stiffness, String seat, int weight) {
        return Markets.of("market 0 0 0 1 0 0; board 6 " + stiffness + " 999; trader a " + weight + " 0 0; seat a 0 "
                + seat + ";");
    }

    private static void promise17TiltIsRoundedTowardZeroAndBounded() {
        Expect.same("-45 / 5", market().tilt(0), -9);
        Expect.same("11 / 1", market().tilt(2), 9);
        Expect.same("0 / 99", market().tilt(1), 0);
        Expect.same("7 / 4", withTorque(4, "right 1", 7).tilt(0), 1);
        Expect.same("-7 / 4", withTorque(4, "left 1", 7).tilt(0), -1);
        Expect.same("3 / 4", withTorque(4, "right 1", 3).tilt(0), 0);
        Expect.same("-3 / 4", withTorque(4, "left 1", 3).tilt(0), 0);
        Expect.same("8 / 4", withTorque(4, "right 2", 4).tilt(0), 2);
        Expect.same("35 / 4", withTorque(4, "right 1", 35).tilt(0), 8);
        Expect.same("36 / 4", withTorque(4, "right 1", 36).tilt(0), 9);
        Expect.same("40 / 4", withTorque(4, "right 1", 40).tilt(0), 9);
        Expect.same("-40 / 4", withTorque(4, "left 1", 40).tilt(0), -9);
        Expect.same("594 / 1", withTorque(1, "right 6", 99).tilt(0), 9);
        Expect.same("-594 / 1", withTorque(1, "left 6", 99).tilt(0), -9);
    }

    private static void promise18BalancedIsTorqueZero() {
        Expect.same("an empty board", market().isBalanced(1), true);
        Expect.same("a small torque", withTorque(99, "right 1", 1).isBalanced(0), false);
        Expect.same("a negative torque", market().isBalanced(0), false);
        Expect.same("equal sides", Markets.of("market 0 0 0 1 0 0; board 3 1 9; trader a 2 0 0; trader b 3 0 0;"
                + "seat a 0 left 3; seat b 0 right 2;").isBalanced(0), true);
    }

    private static void promise19SeatOwner() {
        SeesawMarket market = market();
        Expect.same("a", market.seatOwner(0, -6), 0);
        Expect.same("b", market.seatOwner(0, 5), 1);
        Expect.same("c", market.seatOwner(2, 2), 2);
        Expect.same("d", market.seatOwner(2, -3), 3);
        Expect.same("free", market.seatOwner(0, 6), SeesawMarket.NONE);
        Expect.same("free on the other board", market.seatOwner(2, -2), SeesawMarket.NONE);
        market.leaveSeat(2);
        Expect.same("left", market.seatOwner(2, 2), SeesawMarket.NONE);
    }

    private static void promise20SeatHeight() {
        SeesawMarket market = market();
        Expect.same("the low side", market.seatHeight(0, -6), -54);
        Expect.same("the high side", market.seatHeight(0, 6), 54);
        Expect.same("near the middle", market.seatHeight(0, 1), 9);
        Expect.same("right is low", market.seatHeight(2, 3), -27);
        Expect.same("left is high", market.seatHeight(2, -2), 18);
        Expect.same("level", market.seatHeight(1, -1), 0);
    }

    private static void promise21SeatPrice() {
        SeesawMarket market = market();
        Expect.same("a high seat", market.seatPrice(0, 6), 11 + 6 + 54);
        Expect.same("a low seat", market.seatPrice(0, -6), 11 + 6);
        Expect.same("a taken high seat", market.seatPrice(0, 5), 11 + 5 + 45);
        Expect.same("a level seat", market.seatPrice(1, 1), 11 + 1);
        Expect.same("left and high", market.seatPrice(2, -1), 11 + 1 + 9);
    }

    private static void promise22BalancingSeat() {
        SeesawMarket market = market();
        Expect.same("balance 45 by 9", market.balancingSeat(0, 9), 4);
        Expect.same("balance 45 by 15", market.balancingSeat(0, 15), 3);
        Expect.same("balance 45 by 1", market.balancingSeat(0, 1), 6);
        Expect.same("of several the smallest", market.balancingSeat(1, 5), -1);
        Expect.same("10 and 20 are equally near to 15", Markets.of("market 0 0 0 1 0 0; board 3 1 99; trader a 5 0 0;"
                + "seat a 0 right 3;").balancingSeat(0, 10), -2);
        Expect.same("a taken seat is none", market.balancingSeat(2, 4), -2);
        Expect.same("the taken best seat", Markets.of("market 0 0 0 1 0 0; board 1 1 99; trader a 5 0 0; seat a 0 left 1;")
                .balancingSeat(0, 99), 1);
        Expect.same("no free seat", Markets.of("market 0 0 0 1 0 0; board 1 1 99; trader a 5 0 0; trader b 5 0 0;"
                + "seat a 0 left 1; seat b 0 right 1;").balancingSeat(0, 1), 0);
        Expect.same("the least may still tip", market.balancingSeat(1, 99), -1);
    }

    private static void promise22RefusesInOrder() {
        Expect.noIndex("a board of -1 first", BoardTest::market, market -> market.balancingSeat(-1, 0));
        Expect.noIndex("a board that is not there first", BoardTest::market, market -> market.balancingSeat(3, 100));
        Expect.noArgument("weight 0", BoardTest::market, market -> market.balancingSeat(0, 0));
        Expect.noArgument("weight 100", BoardTest::market, market -> market.balancingSeat(0, 100));
        Expect.noArgument("the least weight", BoardTest::market, market -> market.balancingSeat(0, Integer.MIN_VALUE));
    }

    private static void boardsAndSeatsThatAreNotThere() {
        for (int board : new int[] {-1, 3, 5, Integer.MIN_VALUE, Integer.MAX_VALUE}) {
            Expect.noIndex("arm length", BoardTest::market, market -> market.armLength(board));
            Expect.noIndex("stiffness", BoardTest::market, market -> market.stiffness(board));
            Expect.noIndex("torque", BoardTest::market, market -> market.torque(board));
            Expect.noIndex("tilt", BoardTest::market, market -> market.tilt(board));
            Expect.noIndex("is balanced", BoardTest::market, market -> market.isBalanced(board));
            Expect.noIndex("owner", BoardTest::market, market -> market.seatOwner(board, 1));
            Expect.noIndex("height", BoardTest::market, market -> market.seatHeight(board, 1));
            Expect.noIndex("price", BoardTest::market, market -> market.seatPrice(board, 1));
        }
        for (int position : new int[] {0, 4, -4, 7, -7, Integer.MIN_VALUE, Integer.MAX_VALUE}) {
            Expect.noIndex("owner of " + position, BoardTest::market, market -> market.seatOwner(2, position));
            Expect.noIndex("height of " + position, BoardTest::market, market -> market.seatHeight(2, position));
            Expect.noIndex("price of " + position, BoardTest::market, market -> market.seatPrice(2, position));
        }
        Expect.noIndex("no board at all", () -> Markets.of("market 0 0 0 1 0 0;"), market -> market.torque(0));
    }
}
