/** The boundary cases that the document's terms name: texts with their tokens, ranges and errors, and the error codes. */
public final class TokenBoundaryTest {
    private static final String HEAD = "market 0 0 0 99 0 0;";
    private static final String PARTS = HEAD + "board 2 1 9; board 3 1 9; trader a 1 1 1; trader b 1 1 1;";

    public static void main(String[] args) {
        tokens();
        ranges();
        errors();
        codes();
        Expect.end();
    }

    private static void tokens() {
        Sentences.term("The text buffer holds at most 800 bytes.", TokenBoundaryTest::textsOf800Bytes);
        Sentences.term("A word is a maximal run of the letters a to z, a number is a maximal run of decimal digits (leading "
                + "zeros are allowed), and each of the characters ; ( and ) is a token of its own.", TokenBoundaryTest::maximalRuns);
        Sentences.term("Spaces (byte 32) and line feeds (byte 10) may separate tokens; they may also stand at the beginning and "
                + "at the end.", TokenBoundaryTest::spacesAndLineFeeds);
        Sentences.term("Every other byte is an invalid token.", TokenBoundaryTest::everyOtherByte);
        Sentences.term("quoted parts stand for themselves, braces mean any number of repetitions, and a bar separates "
                + "alternatives", TokenBoundaryTest::anyNumberOfRepetitions);
    }

    private static void ranges() {
        Sentences.term("The wage is 0 to 20, the base price and the weight price are 0 to 99, the retirement age is 1 to 999, the "
                + "fall fine is 0 to 999, the bank is 0 to 99999, a purse is 0 to 9999, an age is 0 to 999 and not greater than "
                + "the retirement age.", TokenBoundaryTest::rangesOfBothTexts);
        Sentences.term("In a setup a board is the number of a board of this setup, and a distance is 1 to the arm length of this "
                + "board.", TokenBoundaryTest::boardsAndDistancesOfSetups);
        Sentences.term("In a script a board is 0 to 4, a distance is 1 to 6, units are 1 to 50, a count is 1 to 30, and times is 1 "
                + "to 20.", TokenBoundaryTest::rangesOfScripts);
        Sentences.term("A word of more than 6 letters is not a name.", TokenBoundaryTest::wordsOfSevenLetters);
        Sentences.term("A \"seat\" of a setup costs nothing, and it may make a board tip; the board then tips at the end of the "
                + "first day.", TokenBoundaryTest::seatsOfASetup);
    }

    private static void errors() {
        Sentences.term("The parser reads the tokens from left to right and stops at the first token that has an error.",
                TokenBoundaryTest::theFirstErrorOnly);
        Sentences.term("If several error codes apply to this token, the smallest code is reported.",
                TokenBoundaryTest::theSmallestCode);
        Sentences.term("The error position is the index of the first byte of the token, or the length of the text if the text "
                + "ends too early.", TokenBoundaryTest::positionsOfErrors);
    }

    private static void codes() {
        Sentences.term("`SYNTAX = 1`: Error code: a token is invalid or not allowed at its place, or the text ends too early.",
                TokenBoundaryTest::syntax);
        Sentences.term("`OUT_OF_RANGE = 2`: Error code: a number is out of its range.", TokenBoundaryTest::outOfRange);
        Sentences.term("`ALREADY_USED = 3`: Error code, in a setup: a name of a new trader that a trader has already; in a "
                + "\"seat\" the name of a trader who has a seat already, or the distance of a seat that is taken; in a script the "
                + "second name of \"sell\" or \"swap\" that is the first one.", TokenBoundaryTest::alreadyUsed);
        Sentences.term("`UNKNOWN_NAME = 4`: Error code: in a setup a name behind \"seat\" that no trader has.",
                TokenBoundaryTest::unknownName);
        Sentences.term("`TOO_MANY = 5`: Error code: in a setup the word of a sixth board or of a 25th trader; in a script the "
                + "word of a 31st command (those in brackets and \"repeat\" included), or the bracket ( inside of two others.",
                TokenBoundaryTest::tooMany);
    }

    private static String padded(String text, int length) {
        return " ".repeat(length - text.length()) + text;
    }

    private static void textsOf800Bytes() {
        Texts.setupIsRight(padded(HEAD, 800));
        Texts.scriptIsRight(padded("wage 1;", 800));
        Texts.setupError(SeesawMarket.SYNTAX, padded(HEAD, 799) + "~x");
        Texts.scriptError(SeesawMarket.SYNTAX, " ".repeat(796) + "wage~");
        Expect.noState("byte 801", () -> {
            SeesawMarket market = Markets.rich();
            Markets.write(market, padded("wage 1;", 800));
            return market;
        }, market -> market.append(0, 0, 0, 0, ' '));
    }

    private static void maximalRuns() {
        Texts.scriptIsRight("wage1;wage 2;days3;repeat2(repeat2(););");
        Texts.scriptError(SeesawMarket.SYNTAX, "~wagewage 1;");
        Texts.scriptError(SeesawMarket.SYNTAX, "~w age 1;");
        Texts.scriptError(SeesawMarket.SYNTAX, "days 1 ~0;");
        Texts.scriptError(SeesawMarket.SYNTAX, "leave abc ~def;");
        Texts.scriptError(SeesawMarket.SYNTAX, "leave ann~1;");
        Texts.scriptError(SeesawMarket.SYNTAX, "wage 1;~;");
        Texts.scriptError(SeesawMarket.SYNTAX, "repeat 1(~(");
        Texts.scriptError(SeesawMarket.SYNTAX, "repeat 1()~);");
        Texts.scriptError(SeesawMarket.OUT_OF_RANGE, "wage ~" + "1".repeat(700) + ";");
        SeesawMarket market = Markets.first();
        Expect.same("zeros ahead of 20", Markets.run(market, "wage " + "0".repeat(700) + "20;"), 1);
        Expect.same("wage", market.wage(), 20);
        Expect.same("zeros alone", Markets.run(market, "wage 000;"), 1);
        Expect.same("wage", market.wage(), 0);
    }

    private static void spacesAndLineFeeds() {
        String[] gaps = {" ", "\n", "  ", "\n\n", " \n "};
        for (String gap : gaps) {
            String script = String.join(gap, "", "repeat", "2", "(", "days", "1", ";", ")", ";", "");
            Expect.same("script with gaps", Markets.run(Markets.first(), script), 2);
            String setup = String.join(gap, "", "market", "0", "0", "0", "99", "0", "0", ";", "board", "1", "1", "1", ";", "");
            Texts.setupIsRight(setup);
        }
        Expect.same("gaps alone", Markets.run(Markets.first(), " \n"), 0);
        Texts.scriptError(SeesawMarket.SYNTAX, "days 1\n\n~");
        Texts.scriptError(SeesawMarket.SYNTAX, "\n \n~day");
    }

    private static boolean mayStandInATextsToken(char sign) {
        return sign >= 'a' && sign <= 'z' || sign >= '0' && sign <= '9' || sign == ';' || sign == '(' || sign == ')'
                || sign == ' ' || sign == '\n';
    }

    private static void everyOtherByte() {
        int count = 0;
        for (char sign = 1; sign <= 255; sign++) {
            if (!mayStandInATextsToken(sign) && sign != '~') {
                Texts.setupError(SeesawMarket.SYNTAX, HEAD + "~" + sign);
                Texts.scriptError(SeesawMarket.SYNTAX, "days 1~" + sign + ";");
                count++;
            }
        }
        Expect.same("other bytes, without the mark of these tests", count, 255 - 26 - 10 - 5 - 1);
        SeesawMarket market = Markets.first();
        Markets.run(market, "days 1~;");
        Expect.same("position of the mark itself", market.errorPosition(), 6);
    }

    private static void anyNumberOfRepetitions() {
        Texts.setupIsRight(HEAD);
        Texts.setupIsRight(HEAD + "board 1 1 1;");
        Texts.setupIsRight(HEAD + "trader a 1 1 1;");
        Texts.setupIsRight(HEAD + "board 1 1 1; trader a 1 1 1; seat a 0 left 1;");
        SeesawMarket full = Markets.of(Markets.full());
        Expect.sameFloat("24 of 60 seats", full.occupancy(), 24.0f / 60.0f);
        Expect.same("a full board", Markets.board(full, 1), "w u s q o m ^ n p r t v x");
        Texts.setupError(SeesawMarket.ALREADY_USED, Markets.full() + "seat ~a0left1;");
        Texts.scriptIsRight("");
        Texts.scriptIsRight("repeat 20();");
        Texts.scriptIsRight("repeat 20(repeat 20(););");
        Texts.scriptIsRight("days 1;".repeat(30));
    }

    private static void rangesOfBothTexts() {
        Texts.setupRange("market ~ 0 0 99 0 0;", 0, 20);
        Texts.setupRange("market 0 ~ 0 99 0 0;", 0, 99);
        Texts.setupRange("market 0 0 ~ 99 0 0;", 0, 99);
        Texts.setupRange("market 0 0 0 ~ 0 0;", 1, 999);
        Texts.setupRange("market 0 0 0 99 ~ 0;", 0, 999);
        Texts.setupRange("market 0 0 0 99 0 ~;", 0, 99999);
        Texts.setupRange(HEAD + "trader a 1 ~ 1;", 0, 9999);
        Texts.setupRange("market 0 0 0 999 0 0; trader a 1 1 ~;", 0, 999);
        Texts.setupRange("market 0 0 0 40 0 0; trader a 1 1 ~;", 0, 40);
        Texts.setupRange("market 0 0 0 1 0 0; trader a 1 1 ~;", 0, 1);
        Texts.setupError(SeesawMarket.OUT_OF_RANGE, "market 0 0 0 40 0 0; trader a 1 1 ~999;");
        Texts.scriptRange("wage ~;", 0, 20);
        Texts.scriptRange("join eve 1 ~;", 0, 9999);
    }

    private static void boardsAndDistancesOfSetups() {
        for (int boards = 1; boards <= 5; boards++) {
            Texts.setupRange(HEAD + "board 1 1 1;".repeat(boards) + "trader a 1 1 1; seat a ~ left 1;", 0, boards - 1);
        }
        Texts.setupError(SeesawMarket.OUT_OF_RANGE, HEAD + "trader a 1 1 1; seat a ~0 left 1;");
        for (int arm = 1; arm <= 6; arm++) {
            String setup = HEAD + "board 6 1 1; board " + arm + " 1 1; trader a 1 1 1; seat a 1 ";
            Texts.setupRange(setup + "left ~;", 1, arm);
            Texts.setupRange(setup + "right ~;", 1, arm);
        }
    }

    private static void rangesOfScripts() {
        Texts.scriptRange("buy ann ~ left 1;", 0, 4);
        Texts.scriptRange("buy ann 0 left ~;", 1, 6);
        Texts.scriptRange("buy ann 4 right ~;", 1, 6);
        Texts.scriptRange("sell ann bob ~;", 1, 50);
        Texts.scriptRange("days ~;", 1, 30);
        Texts.scriptRange("repeat ~ (wage 1;);", 1, 20);
    }

    private static void wordsOfSevenLetters() {
        Texts.setupIsRight(HEAD + "board 1 1 1; trader abcdef 1 1 1; seat abcdef 0 left 1;");
        Texts.setupError(SeesawMarket.SYNTAX, HEAD + "trader ~abcdefg 1 1 1;");
        Texts.setupError(SeesawMarket.SYNTAX, PARTS + "seat ~abcdefg 0 left 1;");
        Texts.scriptIsRight("join abcdef 1 1; buy abcdef 0 left 1; leave abcdef; sell abcdef ann 1; sell ann abcdef 1;"
                + "swap abcdef ann; swap ann abcdef;");
        Texts.scriptError(SeesawMarket.SYNTAX, "join ~abcdefg 1 1;");
        Texts.scriptError(SeesawMarket.SYNTAX, "buy ~abcdefg 0 left 1;");
        Texts.scriptError(SeesawMarket.SYNTAX, "leave ~abcdefg;");
        Texts.scriptError(SeesawMarket.SYNTAX, "sell ~abcdefg ann 1;");
        Texts.scriptError(SeesawMarket.SYNTAX, "sell ann ~abcdefg 1;");
        Texts.scriptError(SeesawMarket.SYNTAX, "swap ~abcdefg ann;");
        Texts.scriptError(SeesawMarket.SYNTAX, "swap ann ~abcdefg;");
        Texts.scriptError(SeesawMarket.SYNTAX, "leave ~" + "a".repeat(700) + ";");
    }

    private static void seatsOfASetup() {
        SeesawMarket market = Markets.of("market 0 99 0 99 0 7; board 6 1 9; trader a 5 0 0; trader b 1 0 0; seat a 0 right 2;"
                + "seat b 0 right 6;");
        Expect.same("an empty purse is enough", market.purseOf(0), 0);
        Expect.same("bank", market.bank(), 7);
        Expect.same("no seat is sold", market.seatsSold(), 0);
        Expect.same("the board would tip", market.torque(0), 16);
        Expect.same("no fall yet", market.fallCount(), 0);
        Expect.same("all are seated", Markets.board(market, 0), ". . . . . . ^ . a . . . b");
        Expect.same("falls of the first day", market.advance(1), 2);
        Expect.same("falls of the second day", market.advance(1), 0);
    }

    private static void theFirstErrorOnly() {
        Texts.scriptError(SeesawMarket.OUT_OF_RANGE, "wage ~21; days 0; leave ?");
        Texts.scriptError(SeesawMarket.SYNTAX, "wage 20; ~? wage 21;");
        Texts.scriptError(SeesawMarket.ALREADY_USED, "wage 20; swap ann ~ann; days 0; ?");
        Texts.setupError(SeesawMarket.OUT_OF_RANGE, "market 0 0 0 ~0 1000 100000; ?");
        Texts.setupError(SeesawMarket.UNKNOWN_NAME, PARTS + "seat ~c 9 up 9; trader a 0 0 0;");
        Texts.setupError(SeesawMarket.ALREADY_USED, PARTS.replace("trader b", "trader ~a") + "seat c 9 up 9;");
    }

    private static void theSmallestCode() {
        Texts.setupError(SeesawMarket.SYNTAX, HEAD + "board 1 1 1;".repeat(5) + "trader a 1 1 1; ~board 1 1 1;");
        Texts.setupError(SeesawMarket.SYNTAX, HEAD + "board 1 1 1;".repeat(5) + "~boards 1 1 1;");
        String full = Markets.withTraders(24) + "seat a 0 left 1;";
        Texts.setupError(SeesawMarket.SYNTAX, full + "~trader y 1 1 1;");
        Texts.setupError(SeesawMarket.SYNTAX, PARTS + "seat ~unknown 0 left 1;");
        Texts.scriptError(SeesawMarket.SYNTAX, "wage 1;".repeat(30) + "~market 1;");
        Texts.scriptError(SeesawMarket.SYNTAX, "repeat 1(repeat 1(~(");
        Texts.scriptError(SeesawMarket.SYNTAX, "repeat 1(repeat 1(wage ~(");
        Texts.scriptError(SeesawMarket.SYNTAX, "repeat 1(repeat 1(wage 1~(");
    }

    private static void positionsOfErrors() {
        Texts.setupError(SeesawMarket.SYNTAX, "~");
        Texts.setupError(SeesawMarket.SYNTAX, " \n ~");
        Texts.setupError(SeesawMarket.SYNTAX, "~x market");
        Texts.scriptError(SeesawMarket.OUT_OF_RANGE, "wage   ~0021;");
        endsTooEarly("market 0 0 0 9 0 0 ; board 1 1 1 ; trader a 1 1 1 ; seat a 0 left 1 ;".split(" "), true);
        endsTooEarly("join a 1 1 ; buy a 0 left 1 ; sell a b 1 ; swap a b ; leave a ; wage 1 ; days 1 ;".split(" "), false);
        endsTooEarly("repeat 1 ( repeat 2 ( days 1 ; wage 1 ; ) ; wage 2 ; ) ;".split(" "), false);
    }

    /** Cuts a text behind each of its tokens; the cut is an error but behind a semicolon outside of all brackets. */
    private static void endsTooEarly(String[] tokens, boolean isSetup) {
        String text = "";
        int open = 0;
        for (String token : tokens) {
            text += token + " ";
            open += token.equals("(") ? 1 : token.equals(")") ? -1 : 0;
            if (isSetup && !token.equals(";")) {
                Texts.setupError(SeesawMarket.SYNTAX, text + "~");
            } else if (isSetup) {
                Texts.setupIsRight(text);
            } else if (open > 0 || !token.equals(";")) {
                Texts.scriptError(SeesawMarket.SYNTAX, text + "~");
            } else {
                Texts.scriptIsRight(text);
            }
        }
    }

    private static void syntax() {
        Texts.setupError(SeesawMarket.SYNTAX, "market ~#");
        Texts.setupError(SeesawMarket.SYNTAX, "market 0 ~x");
        Texts.setupError(SeesawMarket.SYNTAX, "market 0 0 0 9 0 0~");
        Texts.setupError(SeesawMarket.SYNTAX, HEAD + "~market 0 0 0 9 0 0;");
        Texts.scriptError(SeesawMarket.SYNTAX, "~#");
        Texts.scriptError(SeesawMarket.SYNTAX, "~market 0 0 0 9 0 0;");
        Texts.scriptError(SeesawMarket.SYNTAX, "days 1;~)");
        Texts.scriptError(SeesawMarket.SYNTAX, "repeat 1(days 1;~");
    }

    private static void outOfRange() {
        Texts.setupError(SeesawMarket.OUT_OF_RANGE, "market ~21 0 0 9 0 0;");
        Texts.setupError(SeesawMarket.OUT_OF_RANGE, "market ~4294967296 0 0 9 0 0;");
        Texts.setupError(SeesawMarket.OUT_OF_RANGE, "market ~18446744073709551616 0 0 9 0 0;");
        Texts.scriptError(SeesawMarket.OUT_OF_RANGE, "wage ~2147483648;");
        Texts.scriptError(SeesawMarket.OUT_OF_RANGE, "wage ~4294967297;");
        Texts.scriptError(SeesawMarket.OUT_OF_RANGE, "wage ~18446744073709551617;");
        Texts.scriptError(SeesawMarket.OUT_OF_RANGE, "wage ~1000001;");
    }

    private static void alreadyUsed() {
        Texts.setupError(SeesawMarket.ALREADY_USED, PARTS + "trader ~b 1 1 1;");
        Texts.setupError(SeesawMarket.ALREADY_USED, PARTS + "seat a 0 left 1; seat ~a 1 left 1;");
        Texts.setupError(SeesawMarket.ALREADY_USED, PARTS + "seat a 1 left 3; seat b 1 left ~3;");
        Texts.setupIsRight(PARTS + "seat a 1 left 2; seat b 1 right 2;");
        Texts.setupIsRight(PARTS + "seat a 1 left 2; seat b 0 left 2;");
        Texts.setupIsRight(PARTS + "seat a 1 left 2; seat b 1 left 1;");
        Texts.scriptError(SeesawMarket.ALREADY_USED, "sell ann ~ann 1;");
        Texts.scriptError(SeesawMarket.ALREADY_USED, "swap eve ~eve;");
        Texts.scriptIsRight("join ann 1 1; join ann 1 1;");
        Texts.scriptIsRight("swap a aa; sell abcdef abcdee 1;");
    }

    private static void unknownName() {
        Texts.setupError(SeesawMarket.UNKNOWN_NAME, PARTS + "seat ~c 0 left 1;");
        Texts.setupError(SeesawMarket.UNKNOWN_NAME, PARTS + "seat ~ab 0 left 1;");
        Texts.setupError(SeesawMarket.UNKNOWN_NAME, PARTS + "seat ~ann 0 left 1;");
        Texts.setupError(SeesawMarket.UNKNOWN_NAME, HEAD + "seat ~a");
        Texts.scriptIsRight("leave c; swap c d; sell c d 1; buy c 0 left 1;");
    }

    private static void tooMany() {
        String fiveBoards = HEAD + "board 1 1 1;".repeat(5);
        Texts.setupIsRight(fiveBoards);
        Texts.setupError(SeesawMarket.TOO_MANY, fiveBoards + "~board 0 0 0");
        Texts.setupIsRight(Markets.withTraders(24));
        Texts.setupError(SeesawMarket.TOO_MANY, Markets.withTraders(24) + "~trader a 0 0");
        Texts.scriptIsRight("wage 1;".repeat(30));
        Texts.scriptError(SeesawMarket.TOO_MANY, "wage 1;".repeat(30) + "~wage 21;");
        Texts.scriptError(SeesawMarket.TOO_MANY, "wage 1;".repeat(30) + "~repeat 0");
        Texts.scriptIsRight("repeat 1(" + "wage 1;".repeat(28) + "); wage 1;");
        Texts.scriptError(SeesawMarket.TOO_MANY, "repeat 1(" + "wage 1;".repeat(28) + "); wage 1; ~wage 1;");
        Texts.scriptError(SeesawMarket.TOO_MANY, "repeat 1(" + "wage 1;".repeat(29) + "~wage 1;");
        Texts.scriptIsRight("repeat 1(repeat 1();repeat 1(););");
        Texts.scriptError(SeesawMarket.TOO_MANY, "repeat 1(repeat 1(repeat 1~(");
        Texts.scriptError(SeesawMarket.TOO_MANY, "repeat 1(repeat 1(); repeat 1(repeat 1 ~(););");
    }
}
