/** Texts with an error at a known place, which is marked by a ~ that is not a part of the text. */
final class Texts {
    private Texts() {
    }

    static void setupError(int code, String marked) {
        SeesawMarket market = Markets.rich();
        String before = Markets.state(market);
        Expect.same("load of " + marked, Markets.load(market, marked.replace("~", "")), code);
        told(market, code, marked);
        same(market, before, marked);
    }

    static void scriptError(int code, String marked) {
        SeesawMarket market = Markets.rich();
        String before = Markets.state(market);
        Expect.same("script " + marked, Markets.run(market, marked.replace("~", "")), SeesawMarket.NONE);
        told(market, code, marked);
        same(market, before, marked);
    }

    private static void told(SeesawMarket market, int code, String marked) {
        Expect.same("code of " + marked, market.errorCode(), code);
        Expect.same("position in " + marked, market.errorPosition(), marked.indexOf('~'));
    }

    private static void same(SeesawMarket market, String before, String marked) {
        Expect.same("state after " + marked, Markets.state(market), before);
        Expect.same("the buffer is empty after " + marked, Markets.bufferLength(market), 0);
        Expect.same("what can come back after " + marked, Markets.past(market), Markets.past(Markets.rich()));
    }

    /** The number at the ~ may be from the least to the greatest one, and no other. */
    static void setupRange(String marked, int least, int greatest) {
        setupIsRight(marked.replace("~", String.valueOf(least)));
        setupIsRight(marked.replace("~", String.valueOf(greatest)));
        setupError(SeesawMarket.OUT_OF_RANGE, marked.replace("~", "~" + (greatest + 1)));
        if (least > 0) {
            setupError(SeesawMarket.OUT_OF_RANGE, marked.replace("~", "~" + (least - 1)));
        }
        setupError(SeesawMarket.SYNTAX, marked.replace("~", "~-1"));
    }

    static void scriptRange(String marked, int least, int greatest) {
        scriptIsRight(marked.replace("~", String.valueOf(least)));
        scriptIsRight(marked.replace("~", String.valueOf(greatest)));
        scriptError(SeesawMarket.OUT_OF_RANGE, marked.replace("~", "~" + (greatest + 1)));
        if (least > 0) {
            scriptError(SeesawMarket.OUT_OF_RANGE, marked.replace("~", "~" + (least - 1)));
        }
        scriptError(SeesawMarket.SYNTAX, marked.replace("~", "~-1"));
    }

    static void setupIsRight(String setup) {
        SeesawMarket market = Markets.rich();
        Expect.same("load of " + setup, Markets.load(market, setup), 0);
        noError(market, setup);
    }

    static void scriptIsRight(String script) {
        SeesawMarket market = Markets.rich();
        Expect.same("script " + script + " has no error", Markets.run(market, script) != SeesawMarket.NONE, true);
        noError(market, script);
    }

    private static void noError(SeesawMarket market, String text) {
        Expect.same("code of " + text, market.errorCode(), 0);
        Expect.same("position in " + text, market.errorPosition(), SeesawMarket.NONE);
        Expect.same("the buffer is empty after " + text, Markets.bufferLength(market), 0);
    }
}
