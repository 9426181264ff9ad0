/** Promises 2, 3, 6, 7 and 24, and the tokens of texts. */
public final class TextTest {
    public static void main(String[] args) {
        promise2AppendTakesTheMostSignificantByteFirst();
        promise2AppendLeavesOutZeros();
        promise2AppendTakesEachByte();
        promise2AppendHoldsAtMost800Bytes();
        promise3TruncateKeepsTheFirstBytes();
        promise3TruncateRefusesOtherLengths();
        promises6And7TellOfTheLatestText();
        promise24FindsTheWholeBufferOnly();
        tokensMayTouch();
        tokensMayBeApart();
        otherBytesAreInvalid();
        numbersMayHaveLeadingZeros();
        Expect.end();
    }

    private static void promise2AppendTakesTheMostSignificantByteFirst() {
        SeesawMarket market = Markets.first();
        Expect.same("a new buffer", Markets.bufferLength(market), 0);
        Expect.same("append", market.append(0x61626364, 0x65660000, 0, 0, 0), 6);
        Expect.same("join of abcdef", market.join(1, 0), 4);
        Expect.same("name", Markets.name(market, 4), "abcdef");
        Expect.same("one byte a parameter", market.append(0x71, 0x7200, 0x730000, 0x74000000, 0x75), 5);
        Expect.same("join of qrstu", market.join(1, 0), 5);
        Expect.same("name", Markets.name(market, 5), "qrstu");
    }

    private static void promise2AppendLeavesOutZeros() {
        SeesawMarket market = Markets.first();
        Expect.same("zeros alone", market.append(0, 0, 0, 0, 0), 0);
        Expect.same("zeros between", market.append(0x61000062, 0x00630000, 0, 0x00006400, 0x65), 5);
        Expect.same("join", market.join(1, 0), 4);
        Expect.same("name", Markets.name(market, 4), "abcde");
    }

    private static void promise2AppendTakesEachByte() {
        SeesawMarket market = Markets.first();
        Expect.same("negative parameters", market.append(-1, Integer.MIN_VALUE, 255, 128, 1), 8);
        Expect.same("appended to what is there", market.append(0x20202020, 0x20202020, 0x20202020, 0x20202020, 0x20), 25);
        Expect.same("script of invalid bytes", market.runScript(), SeesawMarket.NONE);
        Expect.same("code", market.errorCode(), SeesawMarket.SYNTAX);
        Expect.same("position", market.errorPosition(), 0);
    }

    private static SeesawMarket withBytes(int count) {
        SeesawMarket market = Markets.first();
        Markets.add(market, "x".repeat(count));
        return market;
    }

    private static void promise2AppendHoldsAtMost800Bytes() {
        Expect.same("800 bytes", Markets.bufferLength(withBytes(800)), 800);
        Expect.same("the last byte", withBytes(799).append(0, 0, 0, 0, 0x7a), 800);
        Expect.same("zeros in a full buffer", withBytes(800).append(0, 0, 0, 0, 0), 800);
        Expect.same("20 bytes to the end", withBytes(780).append(-1, -1, -1, -1, -1), 800);
        Expect.noState("append of byte 801", () -> withBytes(800), market -> market.append(0, 1, 0, 0, 0));
        Expect.noState("append of bytes 800 and 801", () -> withBytes(799), market -> market.append(1, 0, 0, 0, 1));
        Expect.noState("append of 20 bytes to 781", () -> withBytes(781), market -> market.append(-1, -1, -1, -1, -1));
    }

    private static void promise3TruncateKeepsTheFirstBytes() {
        SeesawMarket market = Markets.first();
        Markets.write(market, "bobby");
        Expect.same("truncate to the present length", market.truncate(5), 5);
        Expect.same("bobby", market.findTrader(), SeesawMarket.NONE);
        Expect.same("truncate", market.truncate(3), 3);
        Expect.same("bob", market.findTrader(), Markets.BOB);
        Expect.same("truncate to nothing", market.truncate(0), 0);
        Expect.same("truncate of nothing", market.truncate(0), 0);
        Expect.same("buffer", Markets.bufferLength(market), 0);
    }

    private static void promise3TruncateRefusesOtherLengths() {
        Expect.noArgument("truncate of nothing to 1", Markets::first, market -> market.truncate(1));
        Expect.noArgument("truncate to -1", () -> withBytes(3), market -> market.truncate(-1));
        Expect.noArgument("truncate to more", () -> withBytes(3), market -> market.truncate(4));
        Expect.noArgument("truncate to the least int", () -> withBytes(3), market -> market.truncate(Integer.MIN_VALUE));
    }

    private static void error(String what, SeesawMarket market, int code, int position) {
        Expect.same(what + ": code", market.errorCode(), code);
        Expect.same(what + ": position", market.errorPosition(), position);
    }

    private static void promises6And7TellOfTheLatestText() {
        SeesawMarket market = Markets.first();
        error("no text yet", market, 0, SeesawMarket.NONE);
        Markets.run(market, "wage 21;");
        error("a wrong script", market, SeesawMarket.OUT_OF_RANGE, 5);
        market.setWage(1);
        market.undo();
        market.save(0);
        market.restore(0);
        error("after other calls", market, SeesawMarket.OUT_OF_RANGE, 5);
        Markets.load(market, "market x");
        error("a wrong setup", market, SeesawMarket.SYNTAX, 7);
        Markets.run(market, "wage 20;");
        error("a right script", market, 0, SeesawMarket.NONE);
        Markets.load(market, "");
        error("an empty setup", market, SeesawMarket.SYNTAX, 0);
        Markets.load(market, "market 0 0 0 1 0 0;");
        error("a right setup", market, 0, SeesawMarket.NONE);
    }

    private static void promise24FindsTheWholeBufferOnly() {
        SeesawMarket market = Markets.first();
        Expect.same("nothing", market.findTrader(), SeesawMarket.NONE);
        Expect.same("ann", Markets.find(market, "ann"), Markets.ANN);
        Expect.same("the buffer stays", Markets.bufferLength(market), 3);
        Expect.same("dan", Markets.find(market, "dan"), Markets.DAN);
        Expect.same("an", Markets.find(market, "an"), SeesawMarket.NONE);
        Expect.same("anna", Markets.find(market, "anna"), SeesawMarket.NONE);
        Expect.same("ann with a space", Markets.find(market, "ann "), SeesawMarket.NONE);
        Expect.same("space and ann", Markets.find(market, " ann"), SeesawMarket.NONE);
        Expect.same("Ann", Markets.find(market, "Ann"), SeesawMarket.NONE);
        Expect.same("a long word", Markets.find(market, "annannann"), SeesawMarket.NONE);
        market.truncate(0);
        market.advance(30);
        Expect.same("cat has retired", market.isPresent(Markets.CAT), false);
        Expect.same("a retired trader", Markets.find(market, "cat"), Markets.CAT);
    }

    private static void tokensMayTouch() {
        SeesawMarket market = Markets.first();
        Expect.same("touching setup", Markets.load(market, "market1 2 3 4 5 6;board1 2 3;trader a1 2 3;seat a0left1;"), 0);
        Expect.same("age", market.ageOf(0), 3);
        Expect.same("seat", market.positionOf(0), -1);
        Expect.same("touching script", Markets.run(market, "repeat2(wage3;leave a;);"), 3);
        Expect.same("wage", market.wage(), 3);
    }

    private static void tokensMayBeApart() {
        SeesawMarket market = Markets.first();
        Expect.same("lines", Markets.run(market, "\n \nwage\n7\n;  days \n 1 ;\n\n"), 2);
        Expect.same("wage", market.wage(), 7);
        Expect.same("spaces alone", Markets.run(market, " \n "), 0);
        Expect.same("a setup in lines", Markets.load(market, " market 1\n2 3 4 5 6\n;\n"), 0);
    }

    private static void otherBytesAreInvalid() {
        SeesawMarket market = Markets.first();
        String signs = "\tA\r.,-+Z`{:/@[!\u0001\u007f\u0080\u00e9\u00ff";
        for (int index = 0; index < signs.length(); index++) {
            Markets.run(market, "wage 1" + signs.charAt(index) + ";");
            error("byte " + (int) signs.charAt(index) + " in a script", market, SeesawMarket.SYNTAX, 6);
            Markets.load(market, "market " + signs.charAt(index));
            error("byte " + (int) signs.charAt(index) + " in a setup", market, SeesawMarket.SYNTAX, 7);
        }
        Markets.run(market, "wage 1;;");
        error("two semicolons", market, SeesawMarket.SYNTAX, 7);
    }

    private static void numbersMayHaveLeadingZeros() {
        SeesawMarket market = Markets.first();
        Expect.same("zeros", Markets.run(market, "wage 0000000000000000000000000000020;"), 1);
        Expect.same("wage", market.wage(), 20);
        Markets.run(market, "wage 4294967297;");
        error("a number of more than 32 bits", market, SeesawMarket.OUT_OF_RANGE, 5);
        Markets.run(market, "wage 18446744073709551617;");
        error("a number of more than 64 bits", market, SeesawMarket.OUT_OF_RANGE, 5);
        Markets.run(market, "days " + "9".repeat(700) + ";");
        error("a number of 700 digits", market, SeesawMarket.OUT_OF_RANGE, 5);
        Markets.load(market, "market 0 0 0 1 0 2147483648;");
        error("a bank of 2147483648", market, SeesawMarket.OUT_OF_RANGE, 17);
    }
}
