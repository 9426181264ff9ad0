/** A simulator of a market on seesaws. The promises that it keeps are numbered in ../shared/DOC.md. */
public final class SeesawMarket {
    public static final int NONE = -1;
    public static final int SYNTAX = 1;
    public static final int OUT_OF_RANGE = 2;
    public static final int ALREADY_USED = 3;
    public static final int UNKNOWN_NAME = 4;
    public static final int TOO_MANY = 5;
    public static final int FALL = 1;
    public static final int RETIREMENT = 2;
    public static final int POSSIBLE = 0;
    public static final int RETIRED = 1;
    public static final int SEAT_TAKEN = 2;
    public static final int TOO_POOR = 3;
    public static final int WOULD_TIP = 4;
    public static final int NO_SEAT = 5;
    public static final int DIFFERENT_BOARDS = 6;
    public static final int WRONG_WEIGHT = 7;

    private static final int TEXT_LIMIT = 800;
    private static final int BOARD_LIMIT = 5;
    private static final int ARM_LIMIT = 6;
    private static final int TILT_LIMIT = 9;
    private static final int TRADER_LIMIT = 24;
    private static final int NAME_LIMIT = 6;
    private static final long NO_NAME = 0;
    private static final int WEIGHT_LIMIT = 99;
    private static final int PURSE_LIMIT = 9999;
    private static final int UNITS_LIMIT = 50;
    private static final int WAGE_LIMIT = 20;
    private static final int DAYS_LIMIT = 30;
    private static final int LAST_DAY = 9999;
    private static final int FORECAST_LIMIT = 100;
    private static final int EVENT_LIMIT = 12;
    private static final int UNDO_LIMIT = 8;
    private static final int SLOT_LIMIT = 2;
    private static final int COMMAND_LIMIT = 30;
    private static final int BRACKET_LIMIT = 2;
    private static final int REPEAT_LIMIT = 20;
    private static final int STEP_LIMIT = 40;

    private static final String FIRST_BOARDS = "market 3 4 2 40 5 200; board 3 10 60; board 2 5 30;";
    private static final String FIRST_TRADERS =
            "trader ann 10 30 0; trader bob 6 25 12; trader cat 8 12 38; trader dan 15 40 5;";
    private static final String FIRST_SEATS = "seat ann 0 left 2; seat bob 0 right 3; seat cat 1 right 1;";

    private final Text text = new Text();
    private final Text output = new Text();
    private final Tokens tokens = new Tokens(text);
    private final Script script = new Script();
    private final Market market = new Market();
    // Setups are read into it and forecasts run in it, so that neither touches the market.
    private final Market draft = new Market();
    private final History history = new History();
    private final Market[] slots = new Market[SLOT_LIMIT];
    private final boolean[] slotFilled = new boolean[SLOT_LIMIT];

    public SeesawMarket() {
        for (int slot = 0; slot < slots.length; slot++) {
            slots[slot] = new Market();
        }
        text.addAll(FIRST_BOARDS);
        text.addAll(FIRST_TRADERS);
        text.addAll(FIRST_SEATS);
        beginMarketOfText();
    }

    // ---- texts

    public int append(int a, int b, int c, int d, int e) throws IllegalStateException {
        int added = bytesIn(a) + bytesIn(b) + bytesIn(c) + bytesIn(d) + bytesIn(e);
        if (text.length + added > TEXT_LIMIT) {
            throw new IllegalStateException("the text buffer would be too long");
        }
        text.addBytesOf(a);
        text.addBytesOf(b);
        text.addBytesOf(c);
        text.addBytesOf(d);
        text.addBytesOf(e);
        return text.length;
    }

    public int truncate(int length) throws IllegalArgumentException {
        requireRange(length, 0, text.length);
        text.length = length;
        return length;
    }

    public int load() {
        beginMarketOfText();
        return tokens.errorCode;
    }

    public int runScript() {
        tokens.begin();
        script.read(tokens);
        text.length = 0;
        if (tokens.failed()) {
            return NONE;
        }
        history.record(market);
        int done = 0;
        while (done < script.stepCount && script.stepAt(done).performOn(market)) {
            done++;
        }
        return done;
    }

    public int errorCode() {
        return tokens.errorCode;
    }

    public int errorPosition() {
        return tokens.errorPosition;
    }

    // ---- the market

    public int day() {
        return market.day;
    }

    public int bank() {
        return market.bank;
    }

    public int wage() {
        return market.wage;
    }

    public int basePrice() {
        return market.basePrice;
    }

    public int retirementAge() {
        return market.retirementAge;
    }

    // ---- boards

    public int boardCount() {
        return market.boardCount;
    }

    public int armLength(int board) throws IndexOutOfBoundsException {
        return existingBoard(board).armLength;
    }

    public int stiffness(int board) throws IndexOutOfBoundsException {
        return existingBoard(board).stiffness;
    }

    public int torque(int board) throws IndexOutOfBoundsException {
        return market.torqueOn(existingBoard(board));
    }

    public int tilt(int board) throws IndexOutOfBoundsException {
        Board place = existingBoard(board);
        return place.tiltUnder(market.torqueOn(place));
    }

    public boolean isBalanced(int board) throws IndexOutOfBoundsException {
        return market.torqueOn(existingBoard(board)) == 0;
    }

    public int seatOwner(int board, int position) throws IndexOutOfBoundsException {
        return boardWithSeat(board, position).ownerAt(position);
    }

    public int seatHeight(int board, int position) throws IndexOutOfBoundsException {
        return market.heightOn(boardWithSeat(board, position), position);
    }

    public int seatPrice(int board, int position) throws IndexOutOfBoundsException {
        return market.priceOn(boardWithSeat(board, position), position);
    }

    public int balancingSeat(int board, int weight) throws IndexOutOfBoundsException, IllegalArgumentException {
        Board place = existingBoard(board);
        requireRange(weight, 1, WEIGHT_LIMIT);
        return market.mostBalancingSeat(place, weight);
    }

    // ---- traders

    public int traderCount() {
        return market.traderCount;
    }

    public int findTrader() {
        Trader found = market.traderNamed(text.nameBetween(0, text.length));
        return found == null ? NONE : found.number;
    }

    public int nameLetter(int trader, int index) throws IndexOutOfBoundsException {
        return letterOf(existingTrader(trader).name, index);
    }

    public int weightOf(int trader) throws IndexOutOfBoundsException {
        return existingTrader(trader).weight;
    }

    public int purseOf(int trader) throws IndexOutOfBoundsException {
        return existingTrader(trader).purse;
    }

    public int ageOf(int trader) throws IndexOutOfBoundsException {
        return existingTrader(trader).age;
    }

    public boolean isPresent(int trader) throws IndexOutOfBoundsException {
        return existingTrader(trader).present;
    }

    public int boardOf(int trader) throws IndexOutOfBoundsException {
        return existingTrader(trader).board;
    }

    public int positionOf(int trader) throws IndexOutOfBoundsException {
        return existingTrader(trader).position;
    }

    public int incomeOf(int trader) throws IndexOutOfBoundsException {
        return market.incomeFor(existingTrader(trader));
    }

    public int richestAt(int place) {
        return market.traderWithRank(place);
    }

    // ---- reasons and prices of changes

    public int reasonAgainstSeat(int trader, int board, int position) throws IndexOutOfBoundsException {
        Trader buyer = existingTrader(trader);
        return market.whyNotSeat(buyer, boardWithSeat(board, position), position);
    }

    public int reasonAgainstSale(int seller, int buyer, int units)
            throws IndexOutOfBoundsException, IllegalArgumentException {
        Trader giver = existingTrader(seller);
        Trader taker = existingTrader(buyer);
        requireDifferent(seller, buyer);
        requireRange(units, 1, UNITS_LIMIT);
        return market.whyNotSale(giver, taker, units);
    }

    public int reasonAgainstSwap(int one, int other) throws IndexOutOfBoundsException, IllegalArgumentException {
        Trader first = existingTrader(one);
        Trader second = existingTrader(other);
        requireDifferent(one, other);
        return market.whyNotSwap(first, second);
    }

    public int weightUnitPrice(int seller, int buyer) throws IndexOutOfBoundsException, IllegalStateException {
        Trader giver = existingTrader(seller);
        Trader taker = existingTrader(buyer);
        requireSeat(giver);
        requireSeat(taker);
        return market.unitPrice(giver, taker);
    }

    public int bestSeat(int trader, int board) throws IndexOutOfBoundsException {
        Trader buyer = existingTrader(trader);
        return market.mostPayingSeat(buyer, existingBoard(board));
    }

    // ---- statistics and events

    public int seatsSold() {
        return market.seatsSold;
    }

    public int weightSold() {
        return market.weightSold;
    }

    public int fallCount() {
        return market.fallCount;
    }

    public double averagePurse() {
        int present = market.presentTraders();
        return present == 0 ? 0.0 : (double) market.coinsInPurses() / (double) present;
    }

    public float occupancy() {
        int seats = market.seatCount();
        return seats == 0 ? 0.0f : (float) market.seatedTraders() / (float) seats;
    }

    public int contradictions() {
        return market.countContradictions();
    }

    public int eventKind(int index) {
        return market.events.kindAt(index);
    }

    public int eventTrader(int index) {
        return market.events.traderAt(index);
    }

    public int eventDay(int index) {
        return market.events.dayAt(index);
    }

    // ---- forecasts

    public int purseAfter(int trader, int days) throws IndexOutOfBoundsException, IllegalArgumentException {
        int number = existingTrader(trader).number;
        requireRange(days, 0, FORECAST_LIMIT);
        draft.copyFrom(market);
        draft.passDays(days);
        Trader later = draft.traderNumbered(number);
        return later == null ? 0 : later.purse;
    }

    public int bankAfter(int days) throws IllegalArgumentException {
        requireRange(days, 0, FORECAST_LIMIT);
        draft.copyFrom(market);
        draft.passDays(days);
        return draft.bank;
    }

    public int daysUntilFall(int trader) throws IndexOutOfBoundsException {
        int number = existingTrader(trader).number;
        draft.copyFrom(market);
        return draft.passDaysUntilFall(draft.traderNumbered(number));
    }

    public int daysUntilRetirement(int trader) throws IndexOutOfBoundsException {
        Trader asked = existingTrader(trader);
        return asked.present ? market.retirementAge - asked.age + 1 : 0;
    }

    // ---- changes

    public int join(int weight, int purse) throws IllegalArgumentException, IllegalStateException {
        requireRange(weight, 1, WEIGHT_LIMIT);
        requireRange(purse, 0, PURSE_LIMIT);
        long name = text.nameBetween(0, text.length);
        if (!market.canAdmit(name)) {
            throw new IllegalStateException("no trader can join under this name");
        }
        history.record(market);
        text.length = 0;
        return market.admit(name, weight, purse, 0);
    }

    public int buySeat(int trader, int board, int position) throws IndexOutOfBoundsException, IllegalStateException {
        Trader buyer = existingTrader(trader);
        Board place = boardWithSeat(board, position);
        requirePossible(market.whyNotSeat(buyer, place, position));
        history.record(market);
        return market.sellSeat(buyer, place, position);
    }

    public int leaveSeat(int trader) throws IndexOutOfBoundsException, IllegalStateException {
        Trader leaver = existingTrader(trader);
        requireSeat(leaver);
        history.record(market);
        int board = leaver.board;
        market.unseat(leaver);
        return board;
    }

    public int sellWeight(int seller, int buyer, int units)
            throws IndexOutOfBoundsException, IllegalArgumentException, IllegalStateException {
        Trader giver = existingTrader(seller);
        Trader taker = existingTrader(buyer);
        requireDifferent(seller, buyer);
        requireRange(units, 1, UNITS_LIMIT);
        requirePossible(market.whyNotSale(giver, taker, units));
        history.record(market);
        return market.moveWeight(giver, taker, units);
    }

    public int swapSeats(int one, int other)
            throws IndexOutOfBoundsException, IllegalArgumentException, IllegalStateException {
        Trader first = existingTrader(one);
        Trader second = existingTrader(other);
        requireDifferent(one, other);
        requirePossible(market.whyNotSwap(first, second));
        history.record(market);
        return market.exchangeSeats(first, second);
    }

    public int setWage(int wage) throws IllegalArgumentException {
        requireRange(wage, 0, WAGE_LIMIT);
        history.record(market);
        int previous = market.wage;
        market.wage = wage;
        return previous;
    }

    public int advance(int days) throws IllegalArgumentException, IllegalStateException {
        requireRange(days, 1, DAYS_LIMIT);
        if (!market.allowsDays(days)) {
            throw new IllegalStateException("the last day would be passed");
        }
        history.record(market);
        return market.passDays(days);
    }

    // ---- output, undo and slots

    public int writeBoard(int board) throws IndexOutOfBoundsException {
        Board place = existingBoard(board);
        output.length = 0;
        for (int position = -place.armLength; position <= place.armLength; position++) {
            if (output.length > 0) {
                output.add(' ');
            }
            writePlace(place, position);
        }
        return output.length;
    }

    public int outputByte(int index) {
        return output.byteAt(index);
    }

    public int undoCount() {
        return history.count;
    }

    public int undo() throws IllegalStateException {
        if (history.count == 0) {
            throw new IllegalStateException("no change can be undone");
        }
        history.takeBack(market);
        return history.count;
    }

    public int save(int slot) throws IndexOutOfBoundsException {
        Market kept = existingSlot(slot);
        kept.copyFrom(market);
        slotFilled[slot] = true;
        return market.day;
    }

    public int restore(int slot) throws IndexOutOfBoundsException, IllegalStateException {
        Market kept = existingSlot(slot);
        if (!slotFilled[slot]) {
            throw new IllegalStateException("the slot is empty");
        }
        market.copyFrom(kept);
        history.forget();
        return market.day;
    }

    // ---- what the calls above share

    private void beginMarketOfText() {
        tokens.begin();
        Setup.read(tokens, draft);
        text.length = 0;
        if (tokens.failed()) {
            return;
        }
        market.copyFrom(draft);
        history.forget();
        for (int slot = 0; slot < slotFilled.length; slot++) {
            slotFilled[slot] = false;
        }
    }

    private void writePlace(Board board, int position) {
        Trader owner = market.traderNumbered(board.ownerAt(position));
        if (position == 0) {
            output.add('^');
        } else if (owner == null) {
            output.add('.');
        } else {
            output.addName(owner.name);
        }
    }

    private Board existingBoard(int number) throws IndexOutOfBoundsException {
        Board board = market.boardNumbered(number);
        if (board == null) {
            throw new IndexOutOfBoundsException("no such board");
        }
        return board;
    }

    private Board boardWithSeat(int number, int position) throws IndexOutOfBoundsException {
        Board board = existingBoard(number);
        if (!board.hasSeat(position)) {
            throw new IndexOutOfBoundsException("no such seat");
        }
        return board;
    }

    private Trader existingTrader(int number) throws IndexOutOfBoundsException {
        Trader trader = market.traderNumbered(number);
        if (trader == null) {
            throw new IndexOutOfBoundsException("no such trader");
        }
        return trader;
    }

    private Market existingSlot(int slot) throws IndexOutOfBoundsException {
        if (slot < 0 || slot >= slots.length) {
            throw new IndexOutOfBoundsException("no such slot");
        }
        return slots[slot];
    }

    private static void requireRange(int value, int least, int greatest) throws IllegalArgumentException {
        if (value < least || value > greatest) {
            throw new IllegalArgumentException("a number is out of its range");
        }
    }

    private static void requireDifferent(int one, int other) throws IllegalArgumentException {
        if (one == other) {
            throw new IllegalArgumentException("both are the same trader");
        }
    }

    private static void requireSeat(Trader trader) throws IllegalStateException {
        if (!trader.isSeated()) {
            throw new IllegalStateException("the trader has no seat");
        }
    }

    private static void requirePossible(int reason) throws IllegalStateException {
        if (reason != POSSIBLE) {
            throw new IllegalStateException("there is a reason against it");
        }
    }

    private static int bytesIn(int word) {
        int count = 0;
        for (int shift = 24; shift >= 0; shift -= 8) {
            if (((word >>> shift) & 255) != 0) {
                count++;
            }
        }
        return count;
    }

    private static int letterOf(long name, int index) {
        int letter = index >= 0 && index < NAME_LIMIT ? (int) ((name >>> (8 * index)) & 255) : 0;
        return letter == 0 ? NONE : letter;
    }

    private static boolean isLetter(int sign) {
        return sign >= 'a' && sign <= 'z';
    }

    private static boolean isDigit(int sign) {
        return sign >= '0' && sign <= '9';
    }

    private static final class Text {
        final int[] bytes = new int[TEXT_LIMIT];
        int length;

        int byteAt(int index) {
            return index >= 0 && index < length && index < bytes.length ? bytes[index] : NONE;
        }

        void add(int sign) {
            if (length >= 0 && length < bytes.length) {
                bytes[length] = sign;
                length++;
            }
        }

        void addBytesOf(int word) {
            for (int shift = 24; shift >= 0; shift -= 8) {
                int sign = (word >>> shift) & 255;
                if (sign != 0) {
                    add(sign);
                }
            }
        }

        void addAll(String signs) {
            for (int index = 0; index < signs.length(); index++) {
                add(signs.charAt(index));
            }
        }

        void addName(long name) {
            for (int index = 0; index < NAME_LIMIT && letterOf(name, index) != NONE; index++) {
                add(letterOf(name, index));
            }
        }

        // Eight bits a letter, the first one lowest, so that the many copies of a market need no array for each name.
        long nameBetween(int from, int to) {
            if (to - from > NAME_LIMIT) {
                return NO_NAME;
            }
            long name = NO_NAME;
            for (int index = to - 1; index >= from; index--) {
                int letter = byteAt(index);
                if (!isLetter(letter)) {
                    return NO_NAME;
                }
                name = name << 8 | letter;
            }
            return name;
        }
    }

    private static final class Board {
        final int number;
        int armLength;
        int stiffness;
        int torqueLimit;
        // The index is the position plus ARM_LIMIT; the one of position 0 stays free.
        final int[] owners = new int[2 * ARM_LIMIT + 1];

        Board(int number) {
            this.number = number;
        }

        void build(int newArmLength, int newStiffness, int newTorqueLimit) {
            armLength = newArmLength;
            stiffness = newStiffness;
            torqueLimit = newTorqueLimit;
            for (int index = 0; index < owners.length; index++) {
                owners[index] = NONE;
            }
        }

        boolean hasSeat(int position) {
            return position != 0 && position >= -armLength && position <= armLength;
        }

        int ownerAt(int position) {
            int index = position + ARM_LIMIT;
            return index >= 0 && index < owners.length ? owners[index] : NONE;
        }

        void setOwner(int position, int trader) {
            int index = position + ARM_LIMIT;
            if (index >= 0 && index < owners.length) {
                owners[index] = trader;
            }
        }

        boolean isFree(int position) {
            return hasSeat(position) && ownerAt(position) == NONE;
        }

        boolean tipsUnder(int torque) {
            return Math.abs(torque) > torqueLimit;
        }

        int tiltUnder(int torque) {
            if (stiffness < 1) {
                return 0;
            }
            return Math.max(-TILT_LIMIT, Math.min(TILT_LIMIT, torque / stiffness));
        }

        void copyFrom(Board other) {
            armLength = other.armLength;
            stiffness = other.stiffness;
            torqueLimit = other.torqueLimit;
            System.arraycopy(other.owners, 0, owners, 0, owners.length);
        }
    }

    private static final class Trader {
        final int number;
        long name;
        int weight;
        int purse;
        int age;
        boolean present;
        int board;
        int position;

        Trader(int number) {
            this.number = number;
        }

        boolean isSeated() {
            return board != NONE;
        }

        void copyFrom(Trader other) {
            name = other.name;
            weight = other.weight;
            purse = other.purse;
            age = other.age;
            present = other.present;
            board = other.board;
            position = other.position;
        }
    }

    /** The latest events, the latest one first. */
    private static final class EventLog {
        final int[] kinds = new int[EVENT_LIMIT];
        final int[] traders = new int[EVENT_LIMIT];
        final int[] days = new int[EVENT_LIMIT];
        int count;

        void add(int kind, int trader, int day) {
            for (int index = EVENT_LIMIT - 1; index > 0; index--) {
                kinds[index] = kinds[index - 1];
                traders[index] = traders[index - 1];
                days[index] = days[index - 1];
            }
            kinds[0] = kind;
            traders[0] = trader;
            days[0] = day;
            count = Math.min(count + 1, EVENT_LIMIT);
        }

        int kindAt(int index) {
            return hasEvent(index) ? kinds[index] : NONE;
        }

        int traderAt(int index) {
            return hasEvent(index) ? traders[index] : NONE;
        }

        int dayAt(int index) {
            return hasEvent(index) ? days[index] : NONE;
        }

        private boolean hasEvent(int index) {
            return index >= 0 && index < count && index < EVENT_LIMIT;
        }

        void copyFrom(EventLog other) {
            count = other.count;
            System.arraycopy(other.kinds, 0, kinds, 0, kinds.length);
            System.arraycopy(other.traders, 0, traders, 0, traders.length);
            System.arraycopy(other.days, 0, days, 0, days.length);
        }
    }

    /** Everything that an undo restores. */
    private static final class Market {
        int day;
        int bank;
        int wage;
        int basePrice;
        int weightPrice;
        int retirementAge;
        int fallFine;
        int broughtCoins;
        int seatsSold;
        int weightSold;
        int fallCount;
        int boardCount;
        int traderCount;
        final Board[] boards = new Board[BOARD_LIMIT];
        final Trader[] traders = new Trader[TRADER_LIMIT];
        final EventLog events = new EventLog();

        Market() {
            for (int number = 0; number < boards.length; number++) {
                boards[number] = new Board(number);
            }
            for (int number = 0; number < traders.length; number++) {
                traders[number] = new Trader(number);
            }
        }

        void clear() {
            day = 0;
            seatsSold = 0;
            weightSold = 0;
            fallCount = 0;
            boardCount = 0;
            traderCount = 0;
            events.count = 0;
        }

        void copyFrom(Market other) {
            day = other.day;
            bank = other.bank;
            wage = other.wage;
            basePrice = other.basePrice;
            weightPrice = other.weightPrice;
            retirementAge = other.retirementAge;
            fallFine = other.fallFine;
            broughtCoins = other.broughtCoins;
            seatsSold = other.seatsSold;
            weightSold = other.weightSold;
            fallCount = other.fallCount;
            boardCount = other.boardCount;
            traderCount = other.traderCount;
            for (int number = 0; number < boards.length; number++) {
                boards[number].copyFrom(other.boards[number]);
            }
            for (int number = 0; number < traders.length; number++) {
                traders[number].copyFrom(other.traders[number]);
            }
            events.copyFrom(other.events);
        }

        Board boardNumbered(int number) {
            return number >= 0 && number < boardCount && number < boards.length ? boards[number] : null;
        }

        Trader traderNumbered(int number) {
            return number >= 0 && number < traderCount && number < traders.length ? traders[number] : null;
        }

        Trader traderNamed(long name) {
            for (int number = 0; number < traderCount; number++) {
                if (traders[number].name == name) {
                    return traders[number];
                }
            }
            return null;
        }

        void addBoard(int armLength, int stiffness, int torqueLimit) {
            if (boardCount < boards.length) {
                boards[boardCount].build(armLength, stiffness, torqueLimit);
                boardCount++;
            }
        }

        boolean canAdmit(long name) {
            return name != NO_NAME && traderCount < traders.length && traderNamed(name) == null;
        }

        int admit(long name, int weight, int purse, int age) {
            if (traderCount >= traders.length) {
                return NONE;
            }
            Trader trader = traders[traderCount];
            traderCount++;
            trader.name = name;
            trader.weight = weight;
            trader.purse = purse;
            trader.age = age;
            trader.present = true;
            trader.board = NONE;
            trader.position = 0;
            broughtCoins += purse;
            return trader.number;
        }

        // ---- what boards and seats are worth

        int torqueOn(Board board) {
            int torque = 0;
            for (int number = 0; number < traderCount; number++) {
                Trader trader = traders[number];
                if (trader.board == board.number) {
                    torque += trader.position * trader.weight;
                }
            }
            return torque;
        }

        int heightOn(Board board, int position) {
            return -position * board.tiltUnder(torqueOn(board));
        }

        int priceOn(Board board, int position) {
            return basePrice + Math.abs(position) + Math.max(0, heightOn(board, position));
        }

        private int heightUnder(Trader trader) {
            Board board = boardNumbered(trader.board);
            return board == null ? 0 : -trader.position * board.tiltUnder(torqueOn(board));
        }

        int incomeFor(Trader trader) {
            return trader.isSeated() ? wage + heightUnder(trader) : 0;
        }

        int unitPrice(Trader seller, Trader buyer) {
            return Math.max(1, weightPrice + heightUnder(buyer) - heightUnder(seller));
        }

        int mostBalancingSeat(Board board, int weight) {
            int torque = torqueOn(board);
            int best = 0;
            int least = 0;
            for (int position = -board.armLength; position <= board.armLength; position++) {
                int load = Math.abs(torque + position * weight);
                if (board.isFree(position) && (best == 0 || load < least)) {
                    best = position;
                    least = load;
                }
            }
            return best;
        }

        int mostPayingSeat(Trader trader, Board board) {
            int best = 0;
            int greatest = 0;
            for (int position = -board.armLength; position <= board.armLength; position++) {
                int height = -position * board.tiltUnder(torqueAfterMove(trader, board, position));
                if (board.isFree(position) && whyNotSeat(trader, board, position) == POSSIBLE
                        && (best == 0 || height > greatest)) {
                    best = position;
                    greatest = height;
                }
            }
            return best;
        }

        // ---- reasons

        int whyNotSeat(Trader trader, Board board, int position) {
            if (!trader.present) {
                return RETIRED;
            }
            if (!board.isFree(position)) {
                return SEAT_TAKEN;
            }
            if (trader.purse < priceOn(board, position)) {
                return TOO_POOR;
            }
            return board.tipsUnder(torqueAfterMove(trader, board, position)) ? WOULD_TIP : POSSIBLE;
        }

        private int torqueAfterMove(Trader trader, Board board, int position) {
            int torque = torqueOn(board) + position * trader.weight;
            return trader.board == board.number ? torque - trader.position * trader.weight : torque;
        }

        int whyNotSale(Trader seller, Trader buyer, int units) {
            Board board = boardNumbered(seller.board);
            if (board == null || !buyer.isSeated()) {
                return NO_SEAT;
            }
            if (seller.board != buyer.board) {
                return DIFFERENT_BOARDS;
            }
            if (seller.weight - units < 1 || buyer.weight + units > WEIGHT_LIMIT) {
                return WRONG_WEIGHT;
            }
            if (buyer.purse < units * unitPrice(seller, buyer)) {
                return TOO_POOR;
            }
            int torque = torqueOn(board) + units * (buyer.position - seller.position);
            return board.tipsUnder(torque) ? WOULD_TIP : POSSIBLE;
        }

        int whyNotSwap(Trader one, Trader other) {
            Board first = boardNumbered(one.board);
            Board second = boardNumbered(other.board);
            if (first == null || second == null) {
                return NO_SEAT;
            }
            int rise = heightUnder(other) - heightUnder(one);
            if (one.purse < rise || other.purse < -rise) {
                return TOO_POOR;
            }
            return tipsAfterSwap(first, one, other) || tipsAfterSwap(second, one, other) ? WOULD_TIP : POSSIBLE;
        }

        private boolean tipsAfterSwap(Board board, Trader one, Trader other) {
            int torque = torqueOn(board);
            if (one.board == board.number) {
                torque += one.position * (other.weight - one.weight);
            }
            if (other.board == board.number) {
                torque += other.position * (one.weight - other.weight);
            }
            return board.tipsUnder(torque);
        }

        // ---- changes, which the caller has found to be possible

        void seat(Trader trader, Board board, int position) {
            trader.board = board.number;
            trader.position = position;
            board.setOwner(position, trader.number);
        }

        void unseat(Trader trader) {
            Board board = boardNumbered(trader.board);
            if (board != null) {
                board.setOwner(trader.position, NONE);
            }
            trader.board = NONE;
            trader.position = 0;
        }

        int sellSeat(Trader trader, Board board, int position) {
            int price = priceOn(board, position);
            trader.purse -= price;
            bank += price;
            unseat(trader);
            seat(trader, board, position);
            seatsSold++;
            return price;
        }

        int moveWeight(Trader seller, Trader buyer, int units) {
            int coins = units * unitPrice(seller, buyer);
            buyer.purse -= coins;
            seller.purse += coins;
            seller.weight -= units;
            buyer.weight += units;
            weightSold += units;
            return coins;
        }

        int exchangeSeats(Trader one, Trader other) {
            Board first = boardNumbered(one.board);
            Board second = boardNumbered(other.board);
            if (first == null || second == null) {
                return 0;
            }
            int coins = heightUnder(other) - heightUnder(one);
            int position = one.position;
            one.purse -= coins;
            other.purse += coins;
            seat(one, second, other.position);
            seat(other, first, position);
            return coins;
        }

        // ---- days

        boolean allowsDays(int days) {
            return day + days <= LAST_DAY;
        }

        int passDays(int days) {
            int falls = 0;
            for (int passed = 0; passed < days; passed++) {
                day++;
                payIncomes();
                ageTraders();
                falls += tipBoards();
            }
            return falls;
        }

        int passDaysUntilFall(Trader trader) {
            for (int passed = 1; passed <= FORECAST_LIMIT && trader != null && trader.isSeated(); passed++) {
                passDays(1);
                // While only days pass, a present trader loses its seat by a fall alone.
                if (trader.present && !trader.isSeated()) {
                    return passed;
                }
            }
            return NONE;
        }

        private void payIncomes() {
            for (int number = 0; number < traderCount; number++) {
                Trader trader = traders[number];
                int income = incomeFor(trader);
                int coins = income > 0 ? Math.min(income, bank) : -Math.min(-income, trader.purse);
                bank -= coins;
                trader.purse += coins;
            }
        }

        private void ageTraders() {
            for (int number = 0; number < traderCount; number++) {
                Trader trader = traders[number];
                if (trader.present) {
                    trader.age++;
                    if (trader.age > retirementAge) {
                        retire(trader);
                    }
                }
            }
        }

        private void retire(Trader trader) {
            unseat(trader);
            payToBank(trader, trader.purse);
            trader.present = false;
            events.add(RETIREMENT, trader.number, day);
        }

        private void payToBank(Trader trader, int coins) {
            int paid = Math.min(coins, trader.purse);
            trader.purse -= paid;
            bank += paid;
        }

        private int tipBoards() {
            int falls = 0;
            for (int number = 0; number < boardCount; number++) {
                Board board = boards[number];
                int torque = torqueOn(board);
                // Each fall empties a seat.
                for (int seat = 0; seat < 2 * ARM_LIMIT && board.tipsUnder(torque); seat++) {
                    dropFarthest(board, torque > 0 ? 1 : -1);
                    falls++;
                    torque = torqueOn(board);
                }
            }
            fallCount += falls;
            return falls;
        }

        private void dropFarthest(Board board, int side) {
            for (int distance = board.armLength; distance >= 1; distance--) {
                Trader trader = traderNumbered(board.ownerAt(side * distance));
                if (trader != null) {
                    unseat(trader);
                    payToBank(trader, fallFine);
                    events.add(FALL, trader.number, day);
                    return;
                }
            }
        }

        // ---- statistics

        int presentTraders() {
            int count = 0;
            for (int number = 0; number < traderCount; number++) {
                if (traders[number].present) {
                    count++;
                }
            }
            return count;
        }

        int coinsInPurses() {
            int coins = 0;
            for (int number = 0; number < traderCount; number++) {
                coins += traders[number].purse;
            }
            return coins;
        }

        int traderWithRank(int rank) {
            for (int number = 0; number < traderCount; number++) {
                if (traders[number].present && rankOf(traders[number]) == rank) {
                    return number;
                }
            }
            return NONE;
        }

        private int rankOf(Trader trader) {
            int rank = 0;
            for (int number = 0; number < traderCount; number++) {
                Trader rival = traders[number];
                boolean earlier = rival.purse > trader.purse
                        || rival.purse == trader.purse && number < trader.number;
                if (rival.present && earlier) {
                    rank++;
                }
            }
            return rank;
        }

        int seatCount() {
            int seats = 0;
            for (int number = 0; number < boardCount; number++) {
                seats += 2 * boards[number].armLength;
            }
            return seats;
        }

        int seatedTraders() {
            int count = 0;
            for (int number = 0; number < traderCount; number++) {
                if (traders[number].isSeated()) {
                    count++;
                }
            }
            return count;
        }

        int countContradictions() {
            int count = Math.abs(broughtCoins - coinsInPurses() - bank);
            for (int number = 0; number < boardCount; number++) {
                Board board = boards[number];
                count += Math.abs(torqueOn(board) - torqueByDistances(board));
                count += wrongSeats(board);
            }
            return count;
        }

        private int torqueByDistances(Board board) {
            int torque = 0;
            for (int least = 1; least <= board.armLength; least++) {
                for (int distance = least; distance <= board.armLength; distance++) {
                    torque += weightOn(board, distance) - weightOn(board, -distance);
                }
            }
            return torque;
        }

        private int weightOn(Board board, int position) {
            Trader trader = traderNumbered(board.ownerAt(position));
            return trader == null ? 0 : trader.weight;
        }

        private int wrongSeats(Board board) {
            int count = 0;
            for (int position = -board.armLength; position <= board.armLength; position++) {
                Trader trader = traderNumbered(board.ownerAt(position));
                if (trader != null && (trader.board != board.number || trader.position != position)) {
                    count++;
                }
            }
            return count;
        }
    }

    /** The markets ahead of the latest changes. */
    private static final class History {
        final Market[] states = new Market[UNDO_LIMIT];
        int next;
        int count;

        History() {
            for (int index = 0; index < states.length; index++) {
                states[index] = new Market();
            }
        }

        void record(Market market) {
            states[next].copyFrom(market);
            next = (next + 1) % UNDO_LIMIT;
            count = Math.min(count + 1, UNDO_LIMIT);
        }

        void takeBack(Market market) {
            next = (next + UNDO_LIMIT - 1) % UNDO_LIMIT;
            count--;
            market.copyFrom(states[next]);
        }

        void forget() {
            count = 0;
        }
    }

    /**
     * The tokens of a text, one after the other. After the first error nothing is taken any more, so that a reader of a
     * text can go on to its end without asking after each token.
     */
    private static final class Tokens {
        private static final int SPACE = 0;
        private static final int WORD = 1;
        private static final int NUMBER = 2;
        private static final int SIGN = 3;
        private static final int END = 4;
        // Greater than every number that is allowed anywhere.
        private static final int HUGE = 1000000;

        private final Text text;
        private final int[] kinds = new int[TEXT_LIMIT + 1];
        private final int[] starts = new int[TEXT_LIMIT + 1];
        private final int[] ends = new int[TEXT_LIMIT + 1];
        private int count;
        private int here;
        int errorCode;
        int errorPosition = NONE;

        Tokens(Text text) {
            this.text = text;
        }

        void begin() {
            errorCode = 0;
            errorPosition = NONE;
            here = 0;
            count = 0;
            int previous = SPACE;
            for (int index = 0; index < text.length; index++) {
                int kind = kindOf(text.byteAt(index));
                if (kind == previous && (kind == WORD || kind == NUMBER)) {
                    lengthen(index + 1);
                } else if (kind != SPACE) {
                    add(kind, index, index + 1);
                }
                previous = kind;
            }
            add(END, text.length, text.length);
        }

        // A byte that begins no token is a sign, too: one that is expected nowhere.
        private static int kindOf(int sign) {
            if (isLetter(sign)) {
                return WORD;
            }
            if (isDigit(sign)) {
                return NUMBER;
            }
            return sign == ' ' || sign == '\n' ? SPACE : SIGN;
        }

        private void add(int kind, int start, int end) {
            if (count < kinds.length) {
                kinds[count] = kind;
                starts[count] = start;
                ends[count] = end;
                count++;
            }
        }

        private void lengthen(int end) {
            if (count > 0) {
                ends[count - 1] = end;
            }
        }

        boolean failed() {
            return errorCode != 0;
        }

        void refuse(int code) {
            failAt(here, code);
        }

        void refuseTaken(int code) {
            failAt(here - 1, code);
        }

        private void failAt(int token, int code) {
            if (errorCode == 0 && token >= 0 && token < count) {
                errorCode = code;
                errorPosition = starts[token];
            }
        }

        private boolean at(int kind) {
            return errorCode == 0 && here < count && kinds[here] == kind;
        }

        boolean atEnd() {
            return failed() || at(END);
        }

        boolean atWord(String word) {
            if (!at(WORD) || word.length() != ends[here] - starts[here]) {
                return false;
            }
            for (int index = 0; index < word.length(); index++) {
                if (word.charAt(index) != text.byteAt(starts[here] + index)) {
                    return false;
                }
            }
            return true;
        }

        boolean atSign(char sign) {
            return at(SIGN) && text.byteAt(starts[here]) == sign;
        }

        void takeWord(String word) {
            takeIf(atWord(word));
        }

        void takeAnyWord() {
            takeIf(at(WORD));
        }

        void takeSign(char sign) {
            takeIf(atSign(sign));
        }

        long takeName() {
            long name = at(WORD) ? text.nameBetween(starts[here], ends[here]) : NO_NAME;
            takeIf(name != NO_NAME);
            return name;
        }

        int takeNumber(int least, int greatest) {
            boolean isNumber = at(NUMBER);
            int number = isNumber ? valueHere() : NONE;
            if (isNumber && (number < least || number > greatest)) {
                refuse(OUT_OF_RANGE);
            }
            takeIf(isNumber);
            return errorCode == 0 ? number : NONE;
        }

        private int valueHere() {
            int value = 0;
            for (int index = starts[here]; index < ends[here]; index++) {
                value = Math.min(HUGE, value * 10 + text.byteAt(index) - '0');
            }
            return value;
        }

        int takeSide() {
            int side = atWord("left") ? -1 : 1;
            takeIf(atWord("left") || atWord("right"));
            return side;
        }

        void takeEnd() {
            if (!at(END)) {
                refuse(SYNTAX);
            }
        }

        private void takeIf(boolean allowed) {
            if (!allowed) {
                failAt(here, SYNTAX);
            } else if (errorCode == 0) {
                here++;
            }
        }
    }

    private static final class Setup {
        static void read(Tokens tokens, Market market) {
            market.clear();
            readMarket(tokens, market);
            for (int count = 0; count < BOARD_LIMIT && tokens.atWord("board"); count++) {
                readBoard(tokens, market);
            }
            if (tokens.atWord("board")) {
                tokens.refuse(TOO_MANY);
            }
            for (int count = 0; count < TRADER_LIMIT && tokens.atWord("trader"); count++) {
                readTrader(tokens, market);
            }
            if (tokens.atWord("trader")) {
                tokens.refuse(TOO_MANY);
            }
            // A trader has one seat at most, so that one seat more has an error.
            for (int count = 0; count <= TRADER_LIMIT && tokens.atWord("seat"); count++) {
                readSeat(tokens, market);
            }
            tokens.takeEnd();
        }

        private static void readMarket(Tokens tokens, Market market) {
            tokens.takeWord("market");
            market.wage = tokens.takeNumber(0, WAGE_LIMIT);
            market.basePrice = tokens.takeNumber(0, 99);
            market.weightPrice = tokens.takeNumber(0, 99);
            market.retirementAge = tokens.takeNumber(1, 999);
            market.fallFine = tokens.takeNumber(0, 999);
            market.bank = tokens.takeNumber(0, 99999);
            market.broughtCoins = market.bank;
            tokens.takeSign(';');
        }

        private static void readBoard(Tokens tokens, Market market) {
            tokens.takeAnyWord();
            int armLength = tokens.takeNumber(1, ARM_LIMIT);
            int stiffness = tokens.takeNumber(1, 99);
            int torqueLimit = tokens.takeNumber(0, 999);
            tokens.takeSign(';');
            if (!tokens.failed()) {
                market.addBoard(armLength, stiffness, torqueLimit);
            }
        }

        private static void readTrader(Tokens tokens, Market market) {
            tokens.takeAnyWord();
            long name = tokens.takeName();
            if (market.traderNamed(name) != null) {
                tokens.refuseTaken(ALREADY_USED);
            }
            int weight = tokens.takeNumber(1, WEIGHT_LIMIT);
            int purse = tokens.takeNumber(0, PURSE_LIMIT);
            int age = tokens.takeNumber(0, market.retirementAge);
            tokens.takeSign(';');
            if (!tokens.failed()) {
                market.admit(name, weight, purse, age);
            }
        }

        private static void readSeat(Tokens tokens, Market market) {
            tokens.takeAnyWord();
            Trader trader = market.traderNamed(tokens.takeName());
            if (trader == null) {
                tokens.refuseTaken(UNKNOWN_NAME);
            } else if (trader.isSeated()) {
                tokens.refuseTaken(ALREADY_USED);
            }
            Board board = market.boardNumbered(tokens.takeNumber(0, market.boardCount - 1));
            int side = tokens.takeSide();
            int distance = tokens.takeNumber(1, board == null ? 0 : board.armLength);
            if (board != null && !board.isFree(side * distance)) {
                tokens.refuseTaken(ALREADY_USED);
            }
            tokens.takeSign(';');
            if (!tokens.failed() && trader != null && board != null) {
                market.seat(trader, board, side * distance);
            }
        }
    }

    private static final class Command {
        static final int JOIN = 1;
        static final int BUY = 2;
        static final int LEAVE = 3;
        static final int SELL = 4;
        static final int SWAP = 5;
        static final int WAGE = 6;
        static final int DAYS = 7;
        static final int REPEAT = 8;

        int kind;
        long name;
        long otherName;
        // The weight of a join, the board of a purchase, or the only number of another command.
        int number;
        int purse;
        int position;
        // The index of the first command behind the bracket of a repeat.
        int end;

        static int kindOfWord(Tokens tokens) {
            if (tokens.atWord("join")) {
                return JOIN;
            }
            if (tokens.atWord("buy")) {
                return BUY;
            }
            if (tokens.atWord("leave")) {
                return LEAVE;
            }
            if (tokens.atWord("sell")) {
                return SELL;
            }
            if (tokens.atWord("swap")) {
                return SWAP;
            }
            if (tokens.atWord("wage")) {
                return WAGE;
            }
            if (tokens.atWord("days")) {
                return DAYS;
            }
            return tokens.atWord("repeat") ? REPEAT : NONE;
        }

        void readWords(Tokens tokens) {
            switch (kind) {
                case JOIN:
                    name = tokens.takeName();
                    number = tokens.takeNumber(1, WEIGHT_LIMIT);
                    purse = tokens.takeNumber(0, PURSE_LIMIT);
                    break;
                case BUY:
                    name = tokens.takeName();
                    number = tokens.takeNumber(0, BOARD_LIMIT - 1);
                    position = tokens.takeSide() * tokens.takeNumber(1, ARM_LIMIT);
                    break;
                case LEAVE:
                    name = tokens.takeName();
                    break;
                case SELL:
                    readTwoNames(tokens);
                    number = tokens.takeNumber(1, UNITS_LIMIT);
                    break;
                case SWAP:
                    readTwoNames(tokens);
                    break;
                case WAGE:
                    number = tokens.takeNumber(0, WAGE_LIMIT);
                    break;
                case DAYS:
                    number = tokens.takeNumber(1, DAYS_LIMIT);
                    break;
                default:
                    number = tokens.takeNumber(1, REPEAT_LIMIT);
                    break;
            }
        }

        private void readTwoNames(Tokens tokens) {
            name = tokens.takeName();
            otherName = tokens.takeName();
            if (name == otherName) {
                tokens.refuseTaken(ALREADY_USED);
            }
        }

        boolean performOn(Market market) {
            switch (kind) {
                case JOIN:
                    return joinOn(market);
                case BUY:
                    return buyOn(market, market.traderNamed(name));
                case LEAVE:
                    return leaveOn(market, market.traderNamed(name));
                case SELL:
                    return sellOn(market, market.traderNamed(name), market.traderNamed(otherName));
                case SWAP:
                    return swapOn(market, market.traderNamed(name), market.traderNamed(otherName));
                case WAGE:
                    market.wage = number;
                    return true;
                case DAYS:
                    if (!market.allowsDays(number)) {
                        return false;
                    }
                    market.passDays(number);
                    return true;
                default:
                    return false;
            }
        }

        private boolean joinOn(Market market) {
            if (!market.canAdmit(name)) {
                return false;
            }
            market.admit(name, number, purse, 0);
            return true;
        }

        private boolean buyOn(Market market, Trader trader) {
            Board board = market.boardNumbered(number);
            if (trader == null || board == null || !board.hasSeat(position)
                    || market.whyNotSeat(trader, board, position) != POSSIBLE) {
                return false;
            }
            market.sellSeat(trader, board, position);
            return true;
        }

        private static boolean leaveOn(Market market, Trader trader) {
            if (trader == null || !trader.isSeated()) {
                return false;
            }
            market.unseat(trader);
            return true;
        }

        private boolean sellOn(Market market, Trader seller, Trader buyer) {
            if (seller == null || buyer == null || market.whyNotSale(seller, buyer, number) != POSSIBLE) {
                return false;
            }
            market.moveWeight(seller, buyer, number);
            return true;
        }

        private static boolean swapOn(Market market, Trader one, Trader other) {
            if (one == null || other == null || market.whyNotSwap(one, other) != POSSIBLE) {
                return false;
            }
            market.exchangeSeats(one, other);
            return true;
        }
    }

    private static final class Script {
        private final Command[] commands = new Command[COMMAND_LIMIT];
        private int count;
        // The repeats whose brackets are open, the outer one first.
        private final int[] openRepeats = new int[BRACKET_LIMIT];
        private int depth;
        // The commands in the order in which they are performed, without the repeats themselves.
        private final int[] steps = new int[STEP_LIMIT];
        int stepCount;

        Script() {
            for (int index = 0; index < commands.length; index++) {
                commands[index] = new Command();
            }
        }

        Command stepAt(int step) {
            return commandAt(step >= 0 && step < steps.length ? steps[step] : 0);
        }

        private Command commandAt(int index) {
            return commands[index >= 0 && index < commands.length ? index : 0];
        }

        void read(Tokens tokens) {
            count = 0;
            depth = 0;
            stepCount = 0;
            // Each round takes a token or finds an error.
            for (int round = 0; round < TEXT_LIMIT && !tokens.atEnd(); round++) {
                if (depth > 0 && tokens.atSign(')')) {
                    closeBracket(tokens);
                } else {
                    readCommand(tokens);
                }
            }
            if (depth > 0) {
                tokens.refuse(SYNTAX);
            }
            if (!tokens.failed()) {
                unroll(0, count, 0);
            }
        }

        private void readCommand(Tokens tokens) {
            int kind = Command.kindOfWord(tokens);
            if (kind == NONE) {
                tokens.refuse(SYNTAX);
                return;
            }
            if (count >= commands.length) {
                tokens.refuse(TOO_MANY);
                return;
            }
            Command command = commands[count];
            count++;
            command.kind = kind;
            tokens.takeAnyWord();
            command.readWords(tokens);
            if (kind == Command.REPEAT) {
                openBracket(tokens);
            } else {
                tokens.takeSign(';');
            }
        }

        private void openBracket(Tokens tokens) {
            if (depth >= openRepeats.length) {
                tokens.refuse(tokens.atSign('(') ? TOO_MANY : SYNTAX);
                return;
            }
            tokens.takeSign('(');
            openRepeats[depth] = count - 1;
            depth++;
        }

        private void closeBracket(Tokens tokens) {
            tokens.takeSign(')');
            tokens.takeSign(';');
            if (depth > 0 && depth <= openRepeats.length) {
                depth--;
                commandAt(openRepeats[depth]).end = count;
            }
        }

        private void unroll(int from, int to, int level) {
            int following = from;
            for (int index = from; index < to && stepCount < steps.length; index++) {
                if (index < following) {
                    continue;
                }
                Command command = commandAt(index);
                if (command.kind != Command.REPEAT) {
                    steps[stepCount] = index;
                    stepCount++;
                    continue;
                }
                for (int round = 0; round < command.number && level < BRACKET_LIMIT; round++) {
                    unroll(index + 1, command.end, level + 1);
                }
                following = command.end;
            }
        }
    }
}
