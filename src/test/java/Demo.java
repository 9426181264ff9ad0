/** How a SeesawMarket is used. README.md shows this file and what it prints. */
public final class Demo {
    public static void main(String[] args) {
        SeesawMarket market = new SeesawMarket();       // ann, bob, cat and dan on two boards
        show("board 0", board(market, 0));

        int dan = 3;
        show("reason against seat 1 of board 0", market.reasonAgainstSeat(dan, 0, 1));   // 0, which is POSSIBLE
        show("dan pays", market.buySeat(dan, 0, 1));
        show("board 0", board(market, 0));

        write(market, "eve");
        show("eve has the number", market.join(12, 50));
        show("dan in 5 days", market.purseAfter(dan, 5));

        write(market, "buy eve 0 left 1; repeat 2 (days 1; sell ann eve 1;);");
        show("commands performed", market.runScript());
        show("changes that can be undone", market.undoCount());
        show("undone, still to be undone", market.undo());   // the script is one change

        write(market, "days 2; wage 21;");
        show("performed", market.runScript());          // NONE: there is an error in the text
        show("error code", market.errorCode());         // OUT_OF_RANGE
        show("error position", market.errorPosition());

        write(market, "market 3 4 2 40 5 200; board 1 9 2; trader fay 3 20 0; seat fay 0 right 1;");
        show("loaded", market.load());                  // 0: a new market begins
        show("saved on day", market.save(0));
        show("falls in 3 days", market.advance(3));
        show("restored day", market.restore(0));
        show("board 0", board(market, 0));

        try {
            market.leaveSeat(1);
        } catch (IndexOutOfBoundsException exception) {
            show("leaveSeat(1)", "there is no such trader");
        }
    }

    /** Puts a text in the place of the buffer's: a call of append takes five numbers of four bytes each. */
    private static void write(SeesawMarket market, String text) {
        market.truncate(0);
        for (int from = 0; from < text.length(); from += 20) {
            market.append(fourBytes(text, from), fourBytes(text, from + 4), fourBytes(text, from + 8),
                    fourBytes(text, from + 12), fourBytes(text, from + 16));
        }
    }

    /** Bytes behind the end of the text are 0, which append leaves out. */
    private static int fourBytes(String text, int from) {
        int number = 0;
        for (int index = from; index < from + 4; index++) {
            number = number << 8 | (index < text.length() ? text.charAt(index) : 0);
        }
        return number;
    }

    private static String board(SeesawMarket market, int board) {
        StringBuilder signs = new StringBuilder();
        int length = market.writeBoard(board);
        for (int index = 0; index < length; index++) {
            signs.append((char) market.outputByte(index));
        }
        return signs.toString();
    }

    private static void show(String what, Object answer) {
        System.out.println(what + ": " + answer);
    }
}
