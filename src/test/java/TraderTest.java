/** Promises 23 and 25 to 33: traders. */
public final class TraderTest {
    public static void main(String[] args) {
        promise23TraderCount();
        promise25NameLetter();
        promises26To31TellATrader();
        promises26To31TellARetiredTrader();
        promise32IncomeOf();
        promise33RichestAt();
        tradersThatAreNotThere();
        Expect.end();
    }

    private static void promise23TraderCount() {
        SeesawMarket market = Markets.first();
        Expect.same("at first", market.traderCount(), 4);
        Expect.same("none", Markets.of("market 0 0 0 1 0 0;").traderCount(), 0);
        Markets.join(market, "eve", 1, 1);
        Expect.same("after a join", market.traderCount(), 5);
        market.advance(3);
        Expect.same("cat has retired", market.isPresent(Markets.CAT), false);
        Expect.same("with retired ones", market.traderCount(), 5);
    }

    private static void promise25NameLetter() {
        SeesawMarket market = Markets.first();
        Markets.join(market, "zyxwva", 1, 1);
        Expect.same("name of cat", Markets.name(market, Markets.CAT), "cat");
        Expect.same("name of six letters", Markets.name(market, 4), "zyxwva");
        Expect.same("first letter", market.nameLetter(4, 0), 'z');
        Expect.same("last letter", market.nameLetter(4, 5), 'a');
        Expect.same("behind six letters", market.nameLetter(4, 6), SeesawMarket.NONE);
        Expect.same("behind three letters", market.nameLetter(0, 3), SeesawMarket.NONE);
        Expect.same("ahead", market.nameLetter(0, -1), SeesawMarket.NONE);
        Expect.same("far ahead", market.nameLetter(0, Integer.MIN_VALUE), SeesawMarket.NONE);
        Expect.same("far behind", market.nameLetter(0, Integer.MAX_VALUE), SeesawMarket.NONE);
    }

    private static void trader(SeesawMarket market, int trader, String due) {
        String told = market.weightOf(trader) + " " + market.purseOf(trader) + " " + market.ageOf(trader) + " "
                + market.isPresent(trader) + " " + market.boardOf(trader) + " " + market.positionOf(trader);
        Expect.same("trader " + trader, told, due);
    }

    private static void promises26To31TellATrader() {
        SeesawMarket market = Markets.first();
        trader(market, Markets.ANN, "10 30 0 true 0 -2");
        trader(market, Markets.BOB, "6 25 12 true 0 3");
        trader(market, Markets.CAT, "8 12 38 true 1 1");
        trader(market, Markets.DAN, "15 40 5 true -1 0");
        Markets.runAll(market, "buy dan 0 right 1; sell dan ann 5; days 1;");
        trader(market, Markets.ANN, "15 8 1 true 0 -2");
        trader(market, Markets.DAN, "10 63 6 true 0 1");
        trader(market, Markets.CAT, "8 14 39 true 1 1");
    }

    private static void promises26To31TellARetiredTrader() {
        SeesawMarket market = Markets.first();
        market.advance(2);
        trader(market, Markets.CAT, "8 16 40 true 1 1");
        market.advance(1);
        trader(market, Markets.CAT, "8 0 41 false -1 0");
        Expect.same("the name stays", Markets.name(market, Markets.CAT), "cat");
        market.advance(5);
        trader(market, Markets.CAT, "8 0 41 false -1 0");
    }

    private static void promise32IncomeOf() {
        SeesawMarket market = Markets.first();
        Expect.same("level", market.incomeOf(Markets.ANN), 3);
        Expect.same("low", market.incomeOf(Markets.CAT), 2);
        Expect.same("no seat", market.incomeOf(Markets.DAN), 0);
        SeesawMarket poor = Markets.of("market 1 0 0 99 0 0; board 3 1 999; trader a 3 0 0; trader b 1 0 0;"
                + "seat a 0 right 3; seat b 0 left 2;");
        Expect.same("negative, whatever the purse is", poor.incomeOf(0), 1 - 3 * 7);
        Expect.same("positive, whatever the bank has", poor.incomeOf(1), 1 + 2 * 7);
        market.advance(3);
        Expect.same("retired", market.incomeOf(Markets.CAT), 0);
    }

    private static void promise33RichestAt() {
        SeesawMarket market = Markets.of("market 0 0 0 9 0 0; trader a 1 5 0; trader b 1 9 9; trader c 1 7 0; trader d 1 5 0;"
                + "trader e 1 7 0; trader f 1 0 0;");
        int[] due = {1, 2, 4, 0, 3, 5, SeesawMarket.NONE};
        for (int place = 0; place < due.length; place++) {
            Expect.same("place " + place, market.richestAt(place), due[place]);
        }
        Expect.same("place -1", market.richestAt(-1), SeesawMarket.NONE);
        Expect.same("the least place", market.richestAt(Integer.MIN_VALUE), SeesawMarket.NONE);
        Expect.same("the greatest place", market.richestAt(Integer.MAX_VALUE), SeesawMarket.NONE);
        market.advance(1);
        int[] dueWithoutB = {2, 4, 0, 3, 5, SeesawMarket.NONE};
        for (int place = 0; place < dueWithoutB.length; place++) {
            Expect.same("place " + place + " without b", market.richestAt(place), dueWithoutB[place]);
        }
        Expect.same("nobody", Markets.of("market 0 0 0 1 0 0;").richestAt(0), SeesawMarket.NONE);
    }

    private static void tradersThatAreNotThere() {
        for (int trader : new int[] {-1, 4, 24, Integer.MIN_VALUE, Integer.MAX_VALUE}) {
            Expect.noIndex("letter", Markets::first, market -> market.nameLetter(trader, 0));
            Expect.noIndex("weight", Markets::first, market -> market.weightOf(trader));
            Expect.noIndex("purse", Markets::first, market -> market.purseOf(trader));
            Expect.noIndex("age", Markets::first, market -> market.ageOf(trader));
            Expect.noIndex("presence", Markets::first, market -> market.isPresent(trader));
            Expect.noIndex("board", Markets::first, market -> market.boardOf(trader));
            Expect.noIndex("position", Markets::first, market -> market.positionOf(trader));
            Expect.noIndex("income", Markets::first, market -> market.incomeOf(trader));
        }
        Expect.noIndex("no trader at all", () -> Markets.of("market 0 0 0 1 0 0;"), market -> market.weightOf(0));
    }
}
