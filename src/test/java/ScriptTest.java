/** Promise 5: scripts with their errors, and how they are performed. */
public final class ScriptTest {
    public static void main(String[] args) {
        eachCommandCallsItsMethod();
        theSideOfABuy();
        anEmptyScriptIsAChange();
        aScriptIsOneChange();
        aScriptWithAnErrorIsNoChange();
        itEndsBeforeACommandThatThrows();
        itEndsBeforeAnUnknownName();
        itEndsAtTheLastDay();
        itEndsAfterFortyCommands();
        repeatsArePerformedInTheirOrder();
        repeatsMayBeEmpty();
        errorsOfWords();
        errorsOfNumbers();
        errorsOfNames();
        errorsOfBrackets();
        tooManyCommands();
        Expect.end();
    }

    private static SeesawMarket after(String script, int commands) {
        SeesawMarket market = Markets.first();
        Expect.same("commands of " + script, Markets.run(market, script), commands);
        Expect.same("no error in " + script, market.errorCode(), 0);
        Expect.same("the buffer is empty after " + script, Markets.bufferLength(market), 0);
        Expect.same("one change is " + script, market.undoCount(), 1);
        return market;
    }

    private static void sameAs(String script, SeesawMarket other) {
        Expect.same("state after " + script, Markets.state(after(script, 1)), Markets.state(other));
    }

    private static void eachCommandCallsItsMethod() {
        SeesawMarket market = Markets.first();
        Markets.join(market, "eve", 17, 70);
        sameAs("join eve 17 70;", market);
        market = Markets.first();
        market.buySeat(Markets.DAN, 0, 1);
        sameAs("buy dan 0 right 1;", market);
        market = Markets.first();
        market.leaveSeat(Markets.BOB);
        sameAs("leave bob;", market);
        market = Markets.first();
        market.sellWeight(Markets.BOB, Markets.ANN, 2);
        sameAs("sell bob ann 2;", market);
        market = Markets.first();
        market.swapSeats(Markets.BOB, Markets.ANN);
        sameAs("swap bob ann;", market);
        market = Markets.first();
        market.setWage(19);
        sameAs("wage 19;", market);
        market = Markets.first();
        market.advance(7);
        sameAs("days 7;", market);
    }

    private static void theSideOfABuy() {
        Expect.same("left", after("buy dan 1 left 2;", 1).positionOf(Markets.DAN), -2);
        Expect.same("right", after("buy dan 0 right 1;", 1).positionOf(Markets.DAN), 1);
    }

    private static void anEmptyScriptIsAChange() {
        SeesawMarket market = after("", 0);
        Expect.same("undo", market.undo(), 0);
        after("leave dan;", 0);
    }

    private static void aScriptIsOneChange() {
        SeesawMarket market = Markets.first();
        String before = Markets.state(market);
        Markets.runAll(market, "join eve 5 99; buy eve 0 left 1; days 2; wage 0; leave ann;");
        Expect.same("changes", market.undoCount(), 1);
        Expect.same("undo", market.undo(), 0);
        Expect.same("state", Markets.state(market), before);
    }

    private static void aScriptWithAnErrorIsNoChange() {
        SeesawMarket market = Markets.first();
        String before = Markets.state(market);
        Expect.same("script", Markets.run(market, "wage 1; days 1; leave ann; wage"), SeesawMarket.NONE);
        Expect.same("state", Markets.state(market), before);
        Expect.same("changes", market.undoCount(), 0);
        Expect.same("the buffer is empty", Markets.bufferLength(market), 0);
    }

    private static void itEndsBeforeACommandThatThrows() {
        Expect.same("a join of a known name", after("wage 1; join ann 1 1; wage 2;", 1).wage(), 1);
        Expect.same("a taken seat", after("wage 1; buy dan 0 left 2; wage 2;", 1).wage(), 1);
        Expect.same("a seat beyond the arm", after("wage 1; buy dan 1 left 3; wage 2;", 1).wage(), 1);
        Expect.same("a board that is not there", after("wage 1; buy dan 2 left 1; wage 2;", 1).wage(), 1);
        Expect.same("the last board number", after("wage 1; buy dan 4 left 6; wage 2;", 1).wage(), 1);
        Expect.same("leaving no seat", after("wage 1; leave dan; wage 2;", 1).wage(), 1);
        Expect.same("a sale without a seat", after("wage 1; sell dan ann 1; wage 2;", 1).wage(), 1);
        Expect.same("a sale of too much", after("wage 1; sell bob ann 6; wage 2;", 1).wage(), 1);
        Expect.same("a swap without a seat", after("wage 1; swap ann dan; wage 2;", 1).wage(), 1);
        StringBuilder joins = new StringBuilder("wage 1;");
        for (char letter = 'a'; letter <= 'u'; letter++) {
            joins.append("join ").append(letter).append(" 1 1;");
        }
        Expect.same("a join of trader 25", after(joins + "wage 2;", 21).wage(), 1);
    }

    private static void itEndsBeforeAnUnknownName() {
        Expect.same("buy", after("wage 1; buy eve 0 left 1; wage 2;", 1).wage(), 1);
        Expect.same("leave", after("wage 1; leave eve; wage 2;", 1).wage(), 1);
        Expect.same("sell of a stranger", after("wage 1; sell eve ann 1; wage 2;", 1).wage(), 1);
        Expect.same("sell to a stranger", after("wage 1; sell ann eve 1; wage 2;", 1).wage(), 1);
        Expect.same("swap of a stranger", after("wage 1; swap eve ann; wage 2;", 1).wage(), 1);
        Expect.same("swap with a stranger", after("wage 1; swap ann eve; wage 2;", 1).wage(), 1);
        Expect.same("a prefix", after("wage 1; leave an; wage 2;", 1).wage(), 1);
    }

    private static void itEndsAtTheLastDay() {
        SeesawMarket market = Markets.first();
        for (int round = 0; round < 8; round++) {
            Expect.same("days", Markets.run(market, "repeat 20(repeat 2(days 30;););"), 40);
        }
        Expect.same("day", market.day(), 9600);
        Expect.same("to day 9990", Markets.run(market, "repeat 20(days 30;);"), 13);
        Expect.same("too far", Markets.run(market, "days 10; wage 9;"), 0);
        Expect.same("to the last day", Markets.run(market, "days 9; wage 8; days 1;"), 2);
        Expect.same("day", market.day(), 9999);
        Expect.same("wage", market.wage(), 8);
    }

    private static void itEndsAfterFortyCommands() {
        Expect.same("40 of 60", after("repeat 20(days 1; wage 5; days 1;); wage 6;", 40).day(), 27);
        Expect.same("40 of 400", after("repeat 20 ( repeat 20 ( days 1 ; ) ; ) ;", 40).day(), 40);
        Expect.same("repeats are not counted", after("repeat 20(repeat 1(days 1;); days 1;); wage 9;", 40).wage(), 3);
        Expect.same("39 and 1", after("repeat 13(repeat 3(days 1;);); wage 9; wage 10;", 40).wage(), 9);
    }

    private static void repeatsArePerformedInTheirOrder() {
        SeesawMarket market = after("repeat 2(days 1; repeat 3(wage 4; days 2;); wage 5;); days 1;", 17);
        Expect.same("day", market.day(), 15);
        Expect.same("wage", market.wage(), 5);
        Expect.same("before a failure in a repeat", after("repeat 3(wage 9; leave ann; wage 8;); wage 7;", 4).wage(), 9);
        Expect.same("a second repeat", after("repeat 2(days 1;); repeat 2(repeat 2(days 3;); repeat 1(days 5;););", 8).day(),
                24);
        Expect.same("once", after("repeat 1(days 1;);", 1).day(), 1);
    }

    private static void repeatsMayBeEmpty() {
        after("repeat 20();", 0);
        Expect.same("wage", after("repeat 20(repeat 20();); wage 9; repeat 1();", 1).wage(), 9);
    }

    private static void errorsOfWords() {
        Texts.scriptError(SeesawMarket.SYNTAX, "~market 1 2 3 4 5 6;");
        Texts.scriptError(SeesawMarket.SYNTAX, "~day 1;");
        Texts.scriptError(SeesawMarket.SYNTAX, "~dayss 1;");
        Texts.scriptError(SeesawMarket.SYNTAX, "~pays 1;");
        Texts.scriptError(SeesawMarket.SYNTAX, "~coin eve 1 1;");
        Texts.scriptError(SeesawMarket.SYNTAX, "buy ann 0 ~weft 1;");
        Texts.scriptError(SeesawMarket.SYNTAX, "buy ann 0 ~fight 1;");
        Texts.scriptError(SeesawMarket.SYNTAX, "~1;");
        Texts.scriptError(SeesawMarket.SYNTAX, "~;");
        Texts.scriptError(SeesawMarket.SYNTAX, "days 1; ~)");
        Texts.scriptError(SeesawMarket.SYNTAX, "days 1 ~wage 1;");
        Texts.scriptError(SeesawMarket.SYNTAX, "days ~;");
        Texts.scriptError(SeesawMarket.SYNTAX, "days~");
        Texts.scriptError(SeesawMarket.SYNTAX, "days 1 ~");
        Texts.scriptError(SeesawMarket.SYNTAX, "days 1\n ~");
        Texts.scriptError(SeesawMarket.SYNTAX, "buy ann 0 ~up 1;");
        Texts.scriptError(SeesawMarket.SYNTAX, "buy ann 0 ~1;");
        Texts.scriptError(SeesawMarket.SYNTAX, "join eve 1 1~");
        Texts.scriptError(SeesawMarket.SYNTAX, "join eve 1 1 ~0;");
        Texts.scriptError(SeesawMarket.SYNTAX, "sell ann bob ~;");
        Texts.scriptError(SeesawMarket.SYNTAX, "swap ann bob ~1;");
    }

    private static void errorsOfNumbers() {
        Texts.scriptError(SeesawMarket.OUT_OF_RANGE, "join eve ~0 1;");
        Texts.scriptError(SeesawMarket.OUT_OF_RANGE, "join eve ~100 1;");
        Texts.scriptError(SeesawMarket.OUT_OF_RANGE, "join eve 99 ~10000;");
        Texts.scriptError(SeesawMarket.OUT_OF_RANGE, "buy ann ~5 left 1;");
        Texts.scriptError(SeesawMarket.OUT_OF_RANGE, "buy ann 4 left ~0;");
        Texts.scriptError(SeesawMarket.OUT_OF_RANGE, "buy ann 4 right ~7;");
        Texts.scriptError(SeesawMarket.OUT_OF_RANGE, "sell ann bob ~0;");
        Texts.scriptError(SeesawMarket.OUT_OF_RANGE, "sell ann bob ~51;");
        Texts.scriptError(SeesawMarket.OUT_OF_RANGE, "wage ~21;");
        Texts.scriptError(SeesawMarket.OUT_OF_RANGE, "days ~0;");
        Texts.scriptError(SeesawMarket.OUT_OF_RANGE, "days ~31;");
        Texts.scriptError(SeesawMarket.OUT_OF_RANGE, "repeat ~0();");
        Texts.scriptError(SeesawMarket.OUT_OF_RANGE, "repeat ~21();");
        Expect.same("the ends of ranges", Markets.state(after("join eve 99 9999; wage 20; wage 0; days 1; days 30;", 5)),
                Markets.state(after("join eve 99 9999; wage 20; wage 0; repeat 1(days 1; days 30;);", 5)));
        Expect.same("most units are allowed", Markets.run(Markets.first(), "sell ann bob 50;"), 0);
        Expect.same("least of a join", after("join eve 1 0;", 1).weightOf(4), 1);
    }

    private static void errorsOfNames() {
        Texts.scriptError(SeesawMarket.SYNTAX, "leave ~abcdefg;");
        Texts.scriptError(SeesawMarket.SYNTAX, "leave ~7;");
        Texts.scriptError(SeesawMarket.SYNTAX, "join ~abcdefg 1 1;");
        Texts.scriptError(SeesawMarket.SYNTAX, "join ~;");
        Texts.scriptError(SeesawMarket.SYNTAX, "buy ~abcdefg 0 left 1;");
        Texts.scriptError(SeesawMarket.SYNTAX, "swap ann ~abcdefg;");
        Texts.scriptError(SeesawMarket.SYNTAX, "swap ~abcdefg abcdefg;");
        Texts.scriptError(SeesawMarket.ALREADY_USED, "swap ann ~ann;");
        Texts.scriptError(SeesawMarket.ALREADY_USED, "sell eve ~eve 0;");
        Texts.scriptError(SeesawMarket.SYNTAX, "sell ann ~0;");
        Expect.same("six letters", after("join abcdef 1 1;", 1).traderCount(), 5);
        Expect.same("a name like another's beginning", after("join an 1 1; swap ann an;", 1).traderCount(), 5);
        // The names of an earlier script must not be left in a later one.
        SeesawMarket market = after("swap ann bob;", 1);
        Expect.same("one name after two", Markets.run(market, "leave bob;"), 1);
        Expect.same("two names after one", Markets.run(market, "swap cat ann;"), 1);
    }

    private static void errorsOfBrackets() {
        Texts.scriptError(SeesawMarket.SYNTAX, "repeat 2 ~days 1;");
        Texts.scriptError(SeesawMarket.SYNTAX, "repeat 2 ~;");
        Texts.scriptError(SeesawMarket.SYNTAX, "repeat ~(days 1;);");
        Texts.scriptError(SeesawMarket.SYNTAX, "repeat 2 (days 1~);");
        Texts.scriptError(SeesawMarket.SYNTAX, "repeat 2 (days 1;~");
        Texts.scriptError(SeesawMarket.SYNTAX, "repeat 2 (days 1;) ~");
        Texts.scriptError(SeesawMarket.SYNTAX, "repeat 2 (days 1;) ~)");
        Texts.scriptError(SeesawMarket.SYNTAX, "repeat 2 (days 1;); ~)");
        Texts.scriptError(SeesawMarket.SYNTAX, "repeat 2 (~(");
        Texts.scriptError(SeesawMarket.SYNTAX, "repeat 2 (~;");
        Texts.scriptError(SeesawMarket.SYNTAX, "repeat 2 (repeat 2 (days 1;); ~");
        Texts.scriptError(SeesawMarket.SYNTAX, "repeat 2 (repeat 2 (days 1;)~) );");
        Texts.scriptError(SeesawMarket.SYNTAX, "~(days 1;);");
        Texts.scriptError(SeesawMarket.TOO_MANY, "repeat 1(repeat 1(repeat 1~(days 1;););");
        Texts.scriptError(SeesawMarket.TOO_MANY, "repeat 1(repeat 1(days 1; repeat 1 ~(");
        Texts.scriptError(SeesawMarket.OUT_OF_RANGE, "repeat 1(repeat 1(repeat ~0(");
        Texts.scriptError(SeesawMarket.SYNTAX, "repeat 1(repeat 1(repeat 1~");
        Texts.scriptError(SeesawMarket.SYNTAX, "repeat 1(repeat 1(repeat 1 ~days 1;");
        SeesawMarket market = Markets.first();
        Markets.run(market, "repeat 2 (repeat 2 (");
        Expect.same("no bracket of an earlier script is open", Markets.run(market, "days 1;"), 1);
        Expect.same("a bracket of an earlier script", Markets.run(market, "days 1; );"), SeesawMarket.NONE);
        Expect.same("two one after the other", after("repeat 1(repeat 1(days 1;); repeat 1(days 1;););", 2).day(), 2);
    }

    private static void tooManyCommands() {
        String thirty = "wage 1;".repeat(30);
        after(thirty, 30);
        Texts.scriptError(SeesawMarket.TOO_MANY, thirty + "~days 0;");
        Texts.scriptError(SeesawMarket.TOO_MANY, thirty + "~repeat");
        Texts.scriptError(SeesawMarket.SYNTAX, thirty + "~day");
        Texts.scriptError(SeesawMarket.SYNTAX, thirty + "~)");
        String inBrackets = "repeat 1(" + "wage 1;".repeat(28) + "repeat 1(";
        Texts.scriptError(SeesawMarket.TOO_MANY, inBrackets + "~wage 1;););");
        Expect.same("30 with repeats", after(inBrackets + "););", 28).wage(), 1);
    }
}
