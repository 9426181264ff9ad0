/** Makes markets for tests and shows what can be asked of them. */
final class Markets {
    static final String FIRST_SETUP = "market 3 4 2 40 5 200; board 3 10 60; board 2 5 30;"
            + " trader ann 10 30 0; trader bob 6 25 12; trader cat 8 12 38; trader dan 15 40 5;"
            + " seat ann 0 left 2; seat bob 0 right 3; seat cat 1 right 1;";

    static final int ANN = 0;
    static final int BOB = 1;
    static final int CAT = 2;
    static final int DAN = 3;

    private Markets() {
    }

    static SeesawMarket first() {
        return new SeesawMarket();
    }

    /** The first market with changes, both slots, an output, an error and a text, so that little of it is as at first. */
    static SeesawMarket rich() {
        SeesawMarket market = first();
        market.save(0);
        market.setWage(7);
        market.save(1);
        run(market, "wage 8; join");
        market.buySeat(DAN, 0, 1);
        market.leaveSeat(BOB);
        market.advance(1);
        market.writeBoard(0);
        write(market, "eve");
        return market;
    }

    /** A setup with this many traders, called a, b, c and so on, without seats. */
    static String withTraders(int count) {
        StringBuilder setup = new StringBuilder("market 0 0 0 99 0 0;board 6 9 999;");
        for (int trader = 0; trader < count; trader++) {
            setup.append("trader ").append((char) ('a' + trader)).append(" 1 9 0;");
        }
        return setup.toString();
    }

    /** A setup with 24 traders, who take all seats of the first two of five boards. */
    static String full() {
        StringBuilder setup = new StringBuilder("market 0 0 0 99 0 0;" + "board 6 1 9;".repeat(5));
        for (int trader = 0; trader < 24; trader++) {
            setup.append("trader ").append((char) ('a' + trader)).append(" 1 1 1;");
        }
        for (int trader = 0; trader < 24; trader++) {
            setup.append("seat ").append((char) ('a' + trader)).append(trader / 12).append(trader % 2 == 0 ? "left" : "right");
            setup.append(trader % 12 / 2 + 1).append(';');
        }
        return setup.toString();
    }

    static SeesawMarket of(String setup) {
        SeesawMarket market = new SeesawMarket();
        Expect.same("load of " + setup, load(market, setup), 0);
        return market;
    }

    static SeesawMarket onDay(String setup, int day) {
        SeesawMarket market = of(setup);
        for (int left = day; left > 0; left -= 30) {
            market.advance(Math.min(left, 30));
        }
        Expect.same("day", market.day(), day);
        return market;
    }

    static SeesawMarket after(String setup, String script) {
        SeesawMarket market = of(setup);
        runAll(market, script);
        return market;
    }

    /** Puts a text in the place of the buffer's. */
    static void write(SeesawMarket market, String text) {
        market.truncate(0);
        add(market, text);
    }

    static void add(SeesawMarket market, String text) {
        for (int from = 0; from < text.length(); from += 20) {
            market.append(word(text, from), word(text, from + 4), word(text, from + 8), word(text, from + 12),
                    word(text, from + 16));
        }
    }

    private static int word(String text, int from) {
        int word = 0;
        for (int index = from; index < from + 4; index++) {
            word = word << 8 | (index < text.length() ? text.charAt(index) : 0);
        }
        return word;
    }

    static int load(SeesawMarket market, String setup) {
        write(market, setup);
        return market.load();
    }

    static int run(SeesawMarket market, String script) {
        write(market, script);
        return market.runScript();
    }

    /** Runs a script that must be performed to its end; none of its commands may be a repeat. */
    static void runAll(SeesawMarket market, String script) {
        int commands = script.length() - script.replace(";", "").length();
        Expect.same("run of " + script, run(market, script), commands);
    }

    static int join(SeesawMarket market, String name, int weight, int purse) {
        write(market, name);
        return market.join(weight, purse);
    }

    static int find(SeesawMarket market, String name) {
        write(market, name);
        return market.findTrader();
    }

    static int bufferLength(SeesawMarket market) {
        return market.append(0, 0, 0, 0, 0);
    }

    static String name(SeesawMarket market, int trader) {
        StringBuilder name = new StringBuilder();
        for (int index = 0; market.nameLetter(trader, index) != SeesawMarket.NONE; index++) {
            name.append((char) market.nameLetter(trader, index));
        }
        return name.toString();
    }

    static String output(SeesawMarket market) {
        StringBuilder output = new StringBuilder();
        for (int index = 0; market.outputByte(index) != SeesawMarket.NONE; index++) {
            output.append((char) market.outputByte(index));
        }
        return output.toString();
    }

    static String board(SeesawMarket market, int board) {
        market.writeBoard(board);
        return output(market);
    }

    static String events(SeesawMarket market) {
        StringBuilder events = new StringBuilder();
        for (int index = 0; market.eventKind(index) != SeesawMarket.NONE; index++) {
            events.append(market.eventKind(index) == SeesawMarket.FALL ? "fall " : "retirement ");
            events.append(market.eventTrader(index)).append(" on ").append(market.eventDay(index)).append("; ");
        }
        return events.toString().trim();
    }

    /** Everything that an undo restores. */
    static String state(SeesawMarket market) {
        StringBuilder state = new StringBuilder();
        state.append("day ").append(market.day()).append(" bank ").append(market.bank());
        state.append(" wage ").append(market.wage()).append(" base ").append(market.basePrice());
        state.append(" age ").append(market.retirementAge()).append(" sold ").append(market.seatsSold());
        state.append(' ').append(market.weightSold()).append(" falls ").append(market.fallCount());
        state.append(" contradictions ").append(market.contradictions()).append(' ').append(events(market));
        for (int board = 0; board < market.boardCount(); board++) {
            int arm = market.armLength(board);
            state.append(" board ").append(arm).append(' ').append(market.stiffness(board));
            for (int position = -arm; position <= arm; position++) {
                state.append(position == 0 ? " ^ " : " " + market.seatOwner(board, position));
            }
        }
        for (int trader = 0; trader < market.traderCount(); trader++) {
            state.append(" trader ").append(name(market, trader)).append(' ').append(market.weightOf(trader));
            state.append(' ').append(market.purseOf(trader)).append(' ').append(market.ageOf(trader));
            state.append(' ').append(market.isPresent(trader)).append(' ').append(market.boardOf(trader));
            state.append(' ').append(market.positionOf(trader));
        }
        return state.toString();
    }

    /** All that undo and restore can bring back; it leaves nothing of the market. */
    static String past(SeesawMarket market) {
        StringBuilder past = new StringBuilder();
        while (market.undoCount() > 0) {
            market.undo();
            past.append(state(market)).append('\n');
        }
        for (int slot = 0; slot < 2; slot++) {
            past.append("slot ").append(slot).append(' ').append(restored(market, slot)).append('\n');
        }
        return past.toString();
    }

    private static String restored(SeesawMarket market, int slot) {
        try {
            market.restore(slot);
            return state(market);
        } catch (IllegalStateException exception) {
            return "empty";
        }
    }

    /** The state and all the rest that a call without effect leaves as it is. */
    static String picture(SeesawMarket market) {
        return state(market) + " undo " + market.undoCount() + " error " + market.errorCode() + " at "
                + market.errorPosition() + " buffer " + bufferLength(market) + " output " + output(market);
    }
}
