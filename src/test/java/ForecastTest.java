/** Promises 48 to 51: forecasts, which change nothing. */
public final class ForecastTest {
    private static final String TIPPING = "market 4 2 2 3 5 30; board 2 1 3; trader bob 2 20 0; trader ann 2 3 2;"
            + "seat bob 0 left 2; seat ann 0 right 1;";

    public static void main(String[] args) {
        forecastsAgreeWithTheDays();
        forecastsChangeNothing();
        forecastsGoBeyondTheLastDay();
        promise48Refuses();
        promise49Refuses();
        promise50DaysUntilFall();
        promise50LooksAHundredDaysAhead();
        promise51DaysUntilRetirement();
        promises50And51Refuse();
        Expect.end();
    }

    private static void forecastsAgreeWithTheDays() {
        for (int days = 0; days <= 100; days += 5) {
            SeesawMarket now = Markets.first();
            SeesawMarket later = Markets.first();
            for (int passed = 0; passed < days; passed += 5) {
                later.advance(5);
            }
            Expect.same("bank after " + days, now.bankAfter(days), later.bank());
            for (int trader = 0; trader < 4; trader++) {
                Expect.same("purse of " + trader + " after " + days, now.purseAfter(trader, days), later.purseOf(trader));
            }
        }
        SeesawMarket tipping = Markets.of(TIPPING);
        Expect.same("purse after no day", tipping.purseAfter(0, 0), 20);
        Expect.same("purse after a day", tipping.purseAfter(0, 1), 20);
        Expect.same("bank after no day", tipping.bankAfter(0), 30);
        Expect.same("purse of the higher one after a day", tipping.purseAfter(1, 1), 9);
        Expect.same("bank after a day", tipping.bankAfter(1), 24);
        // On day 2 ann has 6 coins more, retires with 15, and bob falls for want of her weight.
        Expect.same("purse after a fall", tipping.purseAfter(0, 2), 15);
        Expect.same("purse after a retirement", tipping.purseAfter(1, 2), 0);
        Expect.same("bank after both", tipping.bankAfter(2), 24 - 6 + 15 + 5);
    }

    private static void forecastsChangeNothing() {
        SeesawMarket market = Markets.of(TIPPING);
        market.setWage(3);
        market.writeBoard(0);
        Markets.write(market, "abc");
        String before = Markets.picture(market);
        market.purseAfter(0, 100);
        market.bankAfter(100);
        market.daysUntilFall(0);
        market.daysUntilRetirement(0);
        Expect.same("picture", Markets.picture(market), before);
        Expect.same("a second time", market.purseAfter(0, 1), Markets.after(TIPPING, "wage 3;").purseAfter(0, 1));
    }

    private static void forecastsGoBeyondTheLastDay() {
        SeesawMarket market = Markets.onDay("market 1 0 0 999 7 9000; board 1 9 0; trader a 1 0 0; trader b 9 9 0; seat a 0 left 1;"
                + "seat b 0 right 1;", 9999);
        Expect.same("join", Markets.join(market, "late", 5, 9), 2);
        Expect.same("a new trader would retire", market.daysUntilRetirement(2), 1000);
        Expect.same("bank", market.bankAfter(100), market.bank());
        SeesawMarket retiring = Markets.onDay("market 0 0 0 999 0 0;", 9990);
        Expect.same("join", Markets.join(retiring, "x", 1, 50), 0);
        Expect.same("purse after 100 days", retiring.purseAfter(0, 100), 50);
    }

    private static void promise48Refuses() {
        for (int trader : new int[] {-1, 4, Integer.MIN_VALUE, Integer.MAX_VALUE}) {
            Expect.noIndex("purse of " + trader, Markets::first, market -> market.purseAfter(trader, 1));
            Expect.noIndex("the trader comes first", Markets::first, market -> market.purseAfter(trader, -1));
        }
        Expect.noArgument("purse after -1", Markets::first, market -> market.purseAfter(0, -1));
        Expect.noArgument("purse after 101", Markets::first, market -> market.purseAfter(0, 101));
        SeesawMarket market = Markets.after(Markets.FIRST_SETUP, "days 3;");
        Expect.same("a retired one's purse", market.purseAfter(Markets.CAT, 100), 0);
    }

    private static void promise49Refuses() {
        Expect.noArgument("bank after -1", Markets::first, market -> market.bankAfter(-1));
        Expect.noArgument("bank after 101", Markets::first, market -> market.bankAfter(101));
        Expect.noArgument("bank after the most days", Markets::first, market -> market.bankAfter(Integer.MAX_VALUE));
    }

    private static void promise50DaysUntilFall() {
        SeesawMarket market = Markets.of(TIPPING);
        // The torque is -2 until ann retires on day 2.
        Expect.same("bob", market.daysUntilFall(0), 2);
        Expect.same("ann", market.daysUntilFall(1), SeesawMarket.NONE);
        market.advance(1);
        Expect.same("bob a day later", market.daysUntilFall(0), 1);
        market.advance(1);
        Expect.same("bob has fallen", market.daysUntilFall(0), SeesawMarket.NONE);
        Expect.same("ann has retired", market.daysUntilFall(1), SeesawMarket.NONE);
        SeesawMarket now = Markets.of("market 0 0 0 99 0 0; board 1 1 0; trader a 1 1 0; trader b 2 1 0; trader c 2 1 99;"
                + "seat a 0 left 1; seat b 0 right 1;");
        Expect.same("the heavier side on the first day", now.daysUntilFall(1), 1);
        Expect.same("then the lighter side", now.daysUntilFall(0), 1);
        Expect.same("no seat", now.daysUntilFall(2), SeesawMarket.NONE);
        SeesawMarket retires = Markets.of("market 0 0 0 9 0 0; board 1 1 0; trader a 1 1 9; seat a 0 left 1;");
        Expect.same("retirement comes before a fall", retires.daysUntilFall(0), SeesawMarket.NONE);
    }

    private static void promise50LooksAHundredDaysAhead() {
        String heads = "market 0 0 0 500 0 0; board 1 9 0; trader a 5 1 %d; trader b 5 1 0; seat a 0 left 1; seat b 0 right 1;";
        Expect.same("on day 99", Markets.of(String.format(heads, 402)).daysUntilFall(1), 99);
        Expect.same("on day 100", Markets.of(String.format(heads, 401)).daysUntilFall(1), 100);
        Expect.same("on day 101", Markets.of(String.format(heads, 400)).daysUntilFall(1), SeesawMarket.NONE);
    }

    private static void promise51DaysUntilRetirement() {
        SeesawMarket market = Markets.first();
        Expect.same("ann", market.daysUntilRetirement(Markets.ANN), 41);
        Expect.same("bob", market.daysUntilRetirement(Markets.BOB), 29);
        Expect.same("cat", market.daysUntilRetirement(Markets.CAT), 3);
        market.advance(2);
        Expect.same("tomorrow", market.daysUntilRetirement(Markets.CAT), 1);
        market.advance(1);
        Expect.same("retired", market.daysUntilRetirement(Markets.CAT), 0);
        market.advance(5);
        Expect.same("long retired", market.daysUntilRetirement(Markets.CAT), 0);
        Expect.same("more than 100 days", Markets.of("market 0 0 0 999 0 0; trader a 1 1 0;").daysUntilRetirement(0), 1000);
    }

    private static void promises50And51Refuse() {
        for (int trader : new int[] {-1, 4, Integer.MIN_VALUE, Integer.MAX_VALUE}) {
            Expect.noIndex("fall of " + trader, Markets::first, market -> market.daysUntilFall(trader));
            Expect.noIndex("retirement of " + trader, Markets::first, market -> market.daysUntilRetirement(trader));
        }
    }
}
