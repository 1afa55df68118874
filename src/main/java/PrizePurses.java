/**
 * A fairground along a path: stalls on pitches with prices, roofs and shelves of prizes, children
 * with purses, moods and favourites who walk, play, win and go home, rain by the hour, rents by the
 * day, and a bank; no coin is lost or made.
 *
 * <p>All rows are made by the constructor and used again; a call makes nothing but the exception
 * that it throws. Recorded states, the snapshot and forecasts are copies from fair to fair.
 */
public final class PrizePurses {
    public static final int NONE = -1;
    public static final int HOOPLA = 0;
    public static final int DARTS = 1;
    public static final int COCONUTS = 2;
    public static final int DIP = 3;
    public static final int TEA = 4;
    public static final int GONE = 1;
    public static final int NO_STALL = 2;
    public static final int TOO_DEAR = 3;
    public static final int ENOUGH = 4;
    public static final int SULKING = 5;

    private static final int PITCHES = 12;
    private static final int KINDS = 5;
    private static final int LEVELS = 4;
    private static final int COLOURS = 4;
    private static final int HOURS = 10;
    private static final int ROUNDS_AN_HOUR = 4;
    private static final int ROUNDS_A_DAY = 40;

    private static final int MOST_STALLS = 6;
    private static final int MOST_PRICE = 9;
    private static final int MOST_ON_SHELF = 40;
    private static final int MOST_FUNDED = 99;
    private static final int MOST_CHILDREN = 200;
    private static final int MOST_HERE = 40;
    private static final int MOST_PURSE = 99;
    private static final int MOST_PLAYS_HERE = 2;
    private static final int MOST_RAIN = 9;
    private static final int MOST_DAY = 9999;
    private static final int MOST_SIGNS = 80;
    private static final int MOST_RECORDED = 4;

    private static final int OUTWARD = 1;
    private static final int HOMEWARD = -1;

    private static final int FIRST_COINS = 500;
    private static final int STALL_COST = 30;
    private static final int ROOF_COST = 20;

    private static final int FIRST_MOOD = 60;
    private static final int MOST_MOOD = 100;
    private static final int CONTENT_MOOD = 50;
    private static final int TEA_MOOD = 15;
    private static final int PRIZE_MOOD = 20;
    private static final int COLOUR_MOOD = 10;
    private static final int LOSS_MOOD = 8;

    private static final char BUILD_SIGN = 'b';
    private static final char RESTOCK_SIGN = 'r';
    private static final char FUND_SIGN = 'f';
    private static final char COME_SIGN = 'c';
    private static final char RAIN_SIGN = 'w';
    private static final char PASS_SIGN = 'p';

    private final Fair now;
    /** Where orders and forecasts are tried out. */
    private final Fair trial;
    private final Fair snapshot;
    private boolean hasSnapshot;
    /** A ring: the state that was recorded last stands before nextRecord. */
    private final Fair[] records;
    private int nextRecord;
    private int recorded;
    private final OrderText text;

    /** Creates an empty fairground with 500 coins in the bank, on day 0, round 0. */
    public PrizePurses() {
        now = new Fair();
        trial = new Fair();
        snapshot = new Fair();
        hasSnapshot = false;
        records = new Fair[MOST_RECORDED];
        for (int i = 0; i < MOST_RECORDED; i++) {
            records[i] = new Fair();
        }
        nextRecord = 0;
        recorded = 0;
        text = new OrderText();
    }

    // ---- actions: stalls

    /** Builds a stall and returns its number. */
    public int build(int pitch, int kind, int price, boolean hasRoof)
            throws IndexOutOfBoundsException, IllegalArgumentException, IllegalStateException {
        needPitch(pitch);
        needKind(kind);
        needPrice(price);
        if (!now.canBuild(pitch, hasRoof)) {
            throw new IllegalStateException("the pitch is taken, there are 6 stalls, or coins lack");
        }
        keepRecord();
        return now.buildStall(pitch, kind, price, hasRoof);
    }

    /** Pulls a stall down and returns the coins that come to the bank. */
    public int pullDown(int stall) throws IndexOutOfBoundsException {
        needStall(stall);
        keepRecord();
        int coins = now.emptyPurse(stall);
        now.removeStall(stall);
        return coins;
    }

    /** Changes the price of a stall and returns the previous one. */
    public int setPrice(int stall, int price)
            throws IndexOutOfBoundsException, IllegalArgumentException {
        Stall changed = stallNumbered(stall);
        needPrice(price);
        keepRecord();
        int previous = changed.price;
        changed.price = price;
        return previous;
    }

    /** Opens a closed stall or closes an open one; returns whether it is open afterwards. */
    public boolean turnStall(int stall) throws IndexOutOfBoundsException {
        Stall turned = stallNumbered(stall);
        keepRecord();
        turned.open = !turned.open;
        return turned.open;
    }

    /** Puts prizes on a shelf and returns the coins that are left in the stall's purse. */
    public int restock(int stall, int level, int colour, int many)
            throws IndexOutOfBoundsException, IllegalArgumentException, IllegalStateException {
        Stall stocked = stallNumbered(stall);
        needLevel(level);
        needColour(colour);
        if (many < 1 || many > MOST_ON_SHELF) {
            throw new IllegalArgumentException("the number of prizes is 1 to 40");
        }
        if (!now.canRestock(stall, level, many)) {
            throw new IllegalStateException("the shelf lacks room or the purse lacks coins");
        }
        keepRecord();
        now.putPrizes(stall, level, colour, many);
        return stocked.purse;
    }

    /** Moves coins from the bank to a stall and returns the coins in its purse afterwards. */
    public int fund(int stall, int coins)
            throws IndexOutOfBoundsException, IllegalArgumentException, IllegalStateException {
        Stall funded = stallNumbered(stall);
        if (coins < 1 || coins > MOST_FUNDED) {
            throw new IllegalArgumentException("the number of coins is 1 to 99");
        }
        if (!now.canFund(stall, coins)) {
            throw new IllegalStateException("the bank does not have the coins");
        }
        keepRecord();
        now.giveCoins(stall, coins);
        return funded.purse;
    }

    /** Moves all coins of a stall to the bank and returns how many they are. */
    public int collect(int stall) throws IndexOutOfBoundsException {
        needStall(stall);
        keepRecord();
        return now.emptyPurse(stall);
    }

    // ---- actions: children, rain, time

    /** Lets a child come and returns its number. */
    public int come(int purse, int kind, int colour)
            throws IndexOutOfBoundsException, IllegalArgumentException, IllegalStateException {
        needKind(kind);
        needColour(colour);
        if (purse < 0 || purse > MOST_PURSE) {
            throw new IllegalArgumentException("the purse is 0 to 99");
        }
        if (!now.children.haveRoom()) {
            throw new IllegalStateException("200 children have come or 40 are at the fair");
        }
        keepRecord();
        return now.letIn(purse, kind, colour);
    }

    /** Changes the rain of an hour and returns the previous rain, as it was set. */
    public int setRain(int hour, int rain)
            throws IndexOutOfBoundsException, IllegalArgumentException {
        needHour(hour);
        if (rain < 0 || rain > MOST_RAIN) {
            throw new IllegalArgumentException("the rain is 0 to 9");
        }
        keepRecord();
        int previous = now.rain[hour];
        now.rain[hour] = rain;
        return previous;
    }

    /** Lets rounds pass and returns the plays in them. */
    public int pass(int rounds) throws IllegalArgumentException, IllegalStateException {
        if (rounds < 1 || rounds > ROUNDS_A_DAY) {
            throw new IllegalArgumentException("the number of rounds is 1 to 40");
        }
        if (!now.canPass(rounds)) {
            throw new IllegalStateException("the last day is 9999");
        }
        keepRecord();
        int before = now.plays;
        now.letPass(rounds);
        return now.plays - before;
    }

    // ---- order texts

    /** Appends a character to the order text and returns the length afterwards. */
    public int type(char character) throws IllegalStateException {
        if (!text.append(character)) {
            throw new IllegalStateException("the text has 80 characters");
        }
        return text.length;
    }

    /** Empties the order text and returns the length that it had. */
    public int clearText() {
        int length = text.length;
        text.length = 0;
        return length;
    }

    /** Returns the index of the first error of the order text, NONE if it is valid. */
    public int textError() {
        return text.firstError();
    }

    /** Returns the number of the first order that could not be carried out now, NONE if all could. */
    public int impossibleOrder() throws IllegalStateException {
        if (text.firstError() != NONE) {
            throw new IllegalStateException("the text is not valid");
        }
        return tryOrders();
    }

    /** Carries out all orders of the text and returns how many they are. */
    public int carryOut() throws IllegalStateException {
        if (text.firstError() != NONE) {
            throw new IllegalStateException("the text is not valid");
        }
        if (tryOrders() != NONE) {
            throw new IllegalStateException("an order cannot be carried out");
        }
        keepRecord();
        now.copyFrom(trial);
        return text.orders;
    }

    // ---- undo, snapshot

    /** Returns to the state that was recorded last; returns the number of states that are left. */
    public int undo() throws IllegalStateException {
        if (recorded == 0) {
            throw new IllegalStateException("no state is recorded");
        }
        nextRecord = (nextRecord + MOST_RECORDED - 1) % MOST_RECORDED;
        recorded--;
        now.copyFrom(records[nextRecord]);
        return recorded;
    }

    /** Takes a snapshot of the state and returns the coins in the bank. */
    public int takeSnapshot() {
        snapshot.copyFrom(now);
        hasSnapshot = true;
        return now.bank;
    }

    /** Returns to the state of the snapshot; returns the coins in the bank afterwards. */
    public int restoreSnapshot() throws IllegalStateException {
        if (!hasSnapshot) {
            throw new IllegalStateException("there is no snapshot");
        }
        keepRecord();
        now.copyFrom(snapshot);
        return now.bank;
    }

    // ---- stalls

    /** Returns the number of stalls. */
    public int stalls() {
        return now.stallCount;
    }

    /** Returns the pitch of a stall. */
    public int pitchOf(int stall) throws IndexOutOfBoundsException {
        return stallNumbered(stall).pitch;
    }

    /** Returns the stall on a pitch, open or closed, NONE if there is none. */
    public int stallOn(int pitch) throws IndexOutOfBoundsException {
        needPitch(pitch);
        return now.findStall(pitch);
    }

    /** Returns the price of a stall. */
    public int priceOf(int stall) throws IndexOutOfBoundsException {
        return stallNumbered(stall).price;
    }

    /** Tells whether a stall is open. */
    public boolean isOpen(int stall) throws IndexOutOfBoundsException {
        return stallNumbered(stall).open;
    }

    /** Returns the coins in the purse of a stall. */
    public int purseOfStall(int stall) throws IndexOutOfBoundsException {
        return stallNumbered(stall).purse;
    }

    /** Returns the plays of a stall so far. */
    public int playsOf(int stall) throws IndexOutOfBoundsException {
        return stallNumbered(stall).plays;
    }

    /** Returns the rent of a stall for a day. */
    public int rentOf(int stall) throws IndexOutOfBoundsException {
        return stallNumbered(stall).rent();
    }

    /** Returns in how many plays a stall has the next one that wins, NONE for TEA. */
    public int playsToWin(int stall) throws IndexOutOfBoundsException {
        return stallNumbered(stall).playsUntilWin();
    }

    // ---- prizes

    /** Returns the number of prizes of a level and colour on a shelf. */
    public int prizesOn(int stall, int level, int colour) throws IndexOutOfBoundsException {
        Stall asked = stallNumbered(stall);
        needLevel(level);
        needColour(colour);
        return asked.shelf[level * COLOURS + colour];
    }

    /** Returns the number of prizes on the shelf of a stall. */
    public int shelfOf(int stall) throws IndexOutOfBoundsException {
        return stallNumbered(stall).prizesOnShelf();
    }

    /** Returns the level of the prize that a winning play would bring now, NONE if none would. */
    public int levelToWin(int stall) throws IndexOutOfBoundsException {
        return stallNumbered(stall).levelOnOffer();
    }

    /** Returns the number of prizes of a level that have been won so far. */
    public int wonOf(int level) throws IndexOutOfBoundsException {
        needLevel(level);
        return now.won[level];
    }

    // ---- children

    /** Returns the number of children who have come so far. */
    public int children() {
        return now.children.count;
    }

    /** Returns the number of children at the fair. */
    public int atFair() {
        return now.children.countHere();
    }

    /** Tells whether a child is at the fair. */
    public boolean isAtFair(int child) throws IndexOutOfBoundsException {
        needChild(child);
        return now.children.place[child] != NONE;
    }

    /** Returns the coins in the purse of a child, also if it has gone home. */
    public int purseOf(int child) throws IndexOutOfBoundsException {
        needChild(child);
        return now.children.purse[child];
    }

    /** Returns the mood of a child, also if it has gone home. */
    public int moodOf(int child) throws IndexOutOfBoundsException {
        needChild(child);
        return now.children.mood[child];
    }

    /** Returns the pitch of a child, NONE if it has gone home. */
    public int placeOf(int child) throws IndexOutOfBoundsException {
        needChild(child);
        return now.children.place[child];
    }

    /** Tells whether a child goes homeward or has gone home. */
    public boolean isHomeward(int child) throws IndexOutOfBoundsException {
        needChild(child);
        return now.children.step[child] == HOMEWARD;
    }

    /** Returns the number of prizes that a child has won. */
    public int prizesOf(int child) throws IndexOutOfBoundsException {
        needChild(child);
        return now.children.prizes[child];
    }

    /** Tells why a child would not play on its pitch, 0 if nothing keeps it from it. */
    public int whyNoPlay(int child) throws IndexOutOfBoundsException {
        needChild(child);
        int place = now.children.place[child];
        if (place == NONE) {
            return GONE;
        }
        Stall stall = now.openStallOn(place);
        if (stall == null) {
            return NO_STALL;
        }
        return now.children.reasonAgainst(child, stall);
    }

    /** Returns the child at the fair with the greatest mood, NONE if there is none. */
    public int happiest() {
        return now.children.findHappiest();
    }

    /** Returns the number of children at the fair whose mood is below 50. */
    public int sulkers() {
        return now.children.countSulkers();
    }

    /** Returns the number of children on a pitch. */
    public int crowdOn(int pitch) throws IndexOutOfBoundsException {
        needPitch(pitch);
        return now.children.countOn(pitch);
    }

    // ---- time, rain

    /** Returns the day. */
    public int day() {
        return now.day;
    }

    /** Returns the round of the day that passes next. */
    public int round() {
        return now.round;
    }

    /** Returns the rain of an hour on the day as it is now. */
    public int rainIn(int hour) throws IndexOutOfBoundsException {
        needHour(hour);
        return now.rainToday(hour);
    }

    /** Returns whether a child would come by itself in the next round. */
    public boolean isChildDue() {
        return now.childComesNext();
    }

    // ---- accounts

    /** Returns the coins in the bank. */
    public int bank() {
        return now.bank;
    }

    /** Returns the coins that the town has got as rents so far. */
    public int town() {
        return now.town;
    }

    /** Returns all coins that were ever at the fair. */
    public int allCoins() {
        return FIRST_COINS + now.brought;
    }

    /** Returns all coins that were ever at the fair, told by the places where they are. */
    public int coinsByPlaces() {
        return now.bank + now.coinsInStalls() + now.children.coinsInPurses() + now.town + now.spent;
    }

    /** Returns the coins that children have spent so far, told by plays. */
    public int takings() {
        return now.takings;
    }

    /** Returns the coins that children have spent so far, told by children. */
    public int takingsByChildren() {
        return now.brought - now.children.coinsInPurses();
    }

    /** Returns the number of plays so far, at stalls that are still there and others. */
    public int plays() {
        return now.plays;
    }

    // ---- forecasts; nothing changes

    /** Returns the coins that children will spend until the day ends, if rounds just pass. */
    public int takingsToday() {
        trial.copyFrom(now);
        trial.letPass(ROUNDS_A_DAY - now.round);
        return trial.takings - now.takings;
    }

    /** Returns in how many rounds a child has gone home, if rounds just pass. */
    public int homeIn(int child) throws IndexOutOfBoundsException {
        needChild(child);
        trial.copyFrom(now);
        int rounds = 0;
        while (rounds < ROUNDS_A_DAY && trial.children.place[child] != NONE) {
            trial.letPass(1);
            rounds++;
        }
        return rounds;
    }

    /** Returns the free pitch at which a new stall would take most coins until the day ends. */
    public int bestPitch(int kind, int price)
            throws IndexOutOfBoundsException, IllegalArgumentException {
        needKind(kind);
        needPrice(price);
        int best = NONE;
        int most = NONE;
        for (int pitch = 0; pitch < PITCHES; pitch++) {
            if (now.findStall(pitch) == NONE) {
                int coins = coinsOfNewStall(pitch, kind, price);
                if (coins > most) {
                    most = coins;
                    best = pitch;
                }
            }
        }
        return best;
    }

    /** Returns the number of recorded states. */
    public int recordedStates() {
        return recorded;
    }

    // ---- what the calls above have in common

    private void needPitch(int pitch) {
        if (pitch < 0 || pitch >= PITCHES) {
            throw new IndexOutOfBoundsException("there is no such pitch");
        }
    }

    private void needKind(int kind) {
        if (kind < 0 || kind >= KINDS) {
            throw new IndexOutOfBoundsException("there is no such kind");
        }
    }

    private void needLevel(int level) {
        if (level < 0 || level >= LEVELS) {
            throw new IndexOutOfBoundsException("there is no such level");
        }
    }

    private void needColour(int colour) {
        if (colour < 0 || colour >= COLOURS) {
            throw new IndexOutOfBoundsException("there is no such colour");
        }
    }

    private void needHour(int hour) {
        if (hour < 0 || hour >= HOURS) {
            throw new IndexOutOfBoundsException("there is no such hour");
        }
    }

    private void needChild(int child) {
        if (child < 0 || child >= now.children.count) {
            throw new IndexOutOfBoundsException("there is no such child");
        }
    }

    private void needStall(int stall) {
        if (!now.hasStall(stall)) {
            throw new IndexOutOfBoundsException("there is no such stall");
        }
    }

    private Stall stallNumbered(int stall) {
        needStall(stall);
        return now.stalls[stall];
    }

    private void needPrice(int price) {
        if (price < 1 || price > MOST_PRICE) {
            throw new IllegalArgumentException("the price is 1 to 9");
        }
    }

    private void keepRecord() {
        records[nextRecord].copyFrom(now);
        nextRecord = (nextRecord + 1) % MOST_RECORDED;
        if (recorded < MOST_RECORDED) {
            recorded++;
        }
    }

    /** Carries the orders of a valid text out on the trial; returns the one that fails, or NONE. */
    private int tryOrders() {
        trial.copyFrom(now);
        text.rewind();
        for (int order = 0; order < MOST_SIGNS && text.readNext(); order++) {
            if (!trial.obey(text)) {
                return order;
            }
        }
        return NONE;
    }

    private int coinsOfNewStall(int pitch, int kind, int price) {
        trial.copyFrom(now);
        int stall = trial.addStall(pitch, kind, price, false);
        trial.letPass(ROUNDS_A_DAY - now.round);
        // Not its purse: the rent of the day has been paid out of that.
        return trial.stalls[stall].plays * price;
    }

    private static int costOfStall(boolean hasRoof) {
        return hasRoof ? STALL_COST + ROOF_COST : STALL_COST;
    }

    private static int costOfPrize(int level) {
        switch (level) {
            case 0:
                return 1;
            case 1:
                return 3;
            case 2:
                return 6;
            default:
                return 10;
        }
    }

    /** Returns which plays of a kind win: each fourth is 4; 0 if none does. */
    private static int winningPlay(int kind) {
        switch (kind) {
            case HOOPLA:
                return 4;
            case DARTS:
                return 3;
            case COCONUTS:
                return 5;
            case DIP:
                return 1;
            default:
                return 0;
        }
    }

    /** Returns the greatest level that can be won at a kind, NONE if none can. */
    private static int greatestLevelOf(int kind) {
        switch (kind) {
            case HOOPLA:
                return 2;
            case DARTS:
                return 1;
            case COCONUTS:
                return 3;
            case DIP:
                return 0;
            default:
                return NONE;
        }
    }

    /** A stall with its purse and its shelf of prizes. */
    private static final class Stall {
        int pitch;
        int kind;
        int price;
        boolean roof;
        boolean open;
        int purse;
        int plays;
        /** Each fourth play wins if this is 4, none if it is 0. */
        int winsEach;
        /** The greatest level that can be won, NONE if none can. */
        int mostLevel;
        /** Whether a child has played here in this round; no copy has it: each round begins anew. */
        boolean taken;
        /** The numbers of prizes, level by level, in a level colour by colour. */
        final int[] shelf = new int[LEVELS * COLOURS];

        void setUp(int newPitch, int newKind, int newPrice, boolean hasRoof) {
            pitch = newPitch;
            kind = newKind;
            price = newPrice;
            roof = hasRoof;
            open = true;
            purse = 0;
            plays = 0;
            winsEach = winningPlay(newKind);
            mostLevel = greatestLevelOf(newKind);
            for (int i = 0; i < LEVELS * COLOURS; i++) {
                shelf[i] = 0;
            }
        }

        void copyFrom(Stall other) {
            pitch = other.pitch;
            kind = other.kind;
            price = other.price;
            roof = other.roof;
            open = other.open;
            purse = other.purse;
            plays = other.plays;
            winsEach = other.winsEach;
            mostLevel = other.mostLevel;
            System.arraycopy(other.shelf, 0, shelf, 0, LEVELS * COLOURS);
        }

        int rent() {
            return 2 + (PITCHES - pitch) / 2;
        }

        int playsUntilWin() {
            return winsEach == 0 ? NONE : winsEach - plays % winsEach;
        }

        int prizesOnShelf() {
            int prizes = 0;
            for (int i = 0; i < LEVELS * COLOURS; i++) {
                prizes += shelf[i];
            }
            return prizes;
        }

        /** Returns the level of the prize that a winning play would bring, NONE if none would. */
        int levelOnOffer() {
            for (int i = LEVELS * COLOURS - 1; i >= 0; i--) {
                if (shelf[i] > 0 && i / COLOURS <= mostLevel) {
                    return i / COLOURS;
                }
            }
            return NONE;
        }

        /** Returns the colour of the prize of a level that a child would get, NONE if there is none. */
        int colourOnOffer(int level, int favourite) {
            if (shelf[level * COLOURS + favourite] > 0) {
                return favourite;
            }
            for (int colour = 0; colour < COLOURS; colour++) {
                if (shelf[level * COLOURS + colour] > 0) {
                    return colour;
                }
            }
            return NONE;
        }
    }

    /** The children who have come, by their numbers. */
    private static final class Children {
        int count;
        /** All children before this one have gone home: the days on which they came have ended. */
        int firstToday;
        final int[] purse = new int[MOST_CHILDREN];
        final int[] mood = new int[MOST_CHILDREN];
        final int[] kind = new int[MOST_CHILDREN];
        final int[] colour = new int[MOST_CHILDREN];
        /** The pitches; NONE for a child who has gone home. */
        final int[] place = new int[MOST_CHILDREN];
        /** OUTWARD or HOMEWARD, which is what a move adds to the pitch. */
        final int[] step = new int[MOST_CHILDREN];
        final int[] playsHere = new int[MOST_CHILDREN];
        final int[] prizes = new int[MOST_CHILDREN];

        /** Copies no more than the children who have come: adding one sets all of its row. */
        void copyFrom(Children other) {
            count = other.count;
            firstToday = other.firstToday;
            System.arraycopy(other.purse, 0, purse, 0, other.count);
            System.arraycopy(other.mood, 0, mood, 0, other.count);
            System.arraycopy(other.kind, 0, kind, 0, other.count);
            System.arraycopy(other.colour, 0, colour, 0, other.count);
            System.arraycopy(other.place, 0, place, 0, other.count);
            System.arraycopy(other.step, 0, step, 0, other.count);
            System.arraycopy(other.playsHere, 0, playsHere, 0, other.count);
            System.arraycopy(other.prizes, 0, prizes, 0, other.count);
        }

        boolean haveRoom() {
            return count < MOST_CHILDREN && countHere() < MOST_HERE;
        }

        /** Puts a child at the gate; there must be room. */
        int add(int coins, int favouriteKind, int favouriteColour) {
            int child = count;
            if (child < MOST_CHILDREN) {
                purse[child] = coins;
                mood[child] = FIRST_MOOD;
                kind[child] = favouriteKind;
                colour[child] = favouriteColour;
                place[child] = 0;
                step[child] = OUTWARD;
                playsHere[child] = 0;
                prizes[child] = 0;
                count++;
            }
            return child;
        }

        void goHome(int child) {
            place[child] = NONE;
            step[child] = HOMEWARD;
        }

        void allGoHome() {
            for (int child = firstToday; child < count; child++) {
                goHome(child);
            }
            firstToday = count;
        }

        void moveOn(int child) {
            playsHere[child] = 0;
            if (place[child] == PITCHES - 1) {
                step[child] = HOMEWARD;
            }
            int next = place[child] + step[child];
            if (next < 0) {
                goHome(child);
            } else {
                place[child] = next;
            }
        }

        void changeMood(int child, int by) {
            int changed = mood[child] + by;
            mood[child] = changed < 0 ? 0 : changed > MOST_MOOD ? MOST_MOOD : changed;
        }

        /** Tells why a child would not play at an open stall on its pitch, 0 if it would. */
        int reasonAgainst(int child, Stall stall) {
            if (purse[child] < stall.price) {
                return TOO_DEAR;
            }
            if (playsHere[child] >= MOST_PLAYS_HERE) {
                return ENOUGH;
            }
            boolean likes = stall.kind == kind[child] || stall.kind == TEA;
            return likes || mood[child] >= CONTENT_MOOD ? 0 : SULKING;
        }

        int countHere() {
            int here = 0;
            for (int child = firstToday; child < count; child++) {
                if (place[child] != NONE) {
                    here++;
                }
            }
            return here;
        }

        int countOn(int pitch) {
            int crowd = 0;
            for (int child = firstToday; child < count; child++) {
                if (place[child] == pitch) {
                    crowd++;
                }
            }
            return crowd;
        }

        int countSulkers() {
            int sulkers = 0;
            for (int child = firstToday; child < count; child++) {
                if (place[child] != NONE && mood[child] < CONTENT_MOOD) {
                    sulkers++;
                }
            }
            return sulkers;
        }

        int findHappiest() {
            int happiest = NONE;
            int most = NONE;
            for (int child = firstToday; child < count; child++) {
                if (place[child] != NONE && mood[child] > most) {
                    most = mood[child];
                    happiest = child;
                }
            }
            return happiest;
        }

        int coinsInPurses() {
            int coins = 0;
            for (int child = 0; child < count; child++) {
                coins += purse[child];
            }
            return coins;
        }
    }

    /** The whole state: all that undo and the snapshot bring back. */
    private static final class Fair {
        int bank = FIRST_COINS;
        int town;
        /** The coins that stalls and prizes have cost. */
        int spent;
        /** The coins that children had in their purses as they came. */
        int brought;
        int takings;
        int plays;
        int day;
        int round;
        /** The rain of the hours as it was set, without what some days have more. */
        final int[] rain = new int[HOURS];
        final int[] won = new int[LEVELS];
        int stallCount;
        /** One stall more than can be built: a forecast may add one to six. */
        final Stall[] stalls = new Stall[MOST_STALLS + 1];
        final Children children = new Children();

        Fair() {
            for (int i = 0; i <= MOST_STALLS; i++) {
                stalls[i] = new Stall();
            }
        }

        /** Copies no more than the stalls that stand: setting one up sets all of it. */
        void copyFrom(Fair other) {
            bank = other.bank;
            town = other.town;
            spent = other.spent;
            brought = other.brought;
            takings = other.takings;
            plays = other.plays;
            day = other.day;
            round = other.round;
            System.arraycopy(other.rain, 0, rain, 0, HOURS);
            System.arraycopy(other.won, 0, won, 0, LEVELS);
            stallCount = other.stallCount;
            for (int i = 0; i < stallCount; i++) {
                stalls[i].copyFrom(other.stalls[i]);
            }
            children.copyFrom(other.children);
        }

        /** Carries out the order that was read last; returns false, with nothing done, if it can't. */
        boolean obey(OrderText order) {
            if (!canObey(order)) {
                return false;
            }
            if (order.verb == BUILD_SIGN) {
                buildStall(order.place, order.kind, order.number, order.roof);
            } else if (order.verb == RESTOCK_SIGN) {
                putPrizes(order.place, order.level, order.colour, order.number);
            } else if (order.verb == FUND_SIGN) {
                giveCoins(order.place, order.number);
            } else if (order.verb == COME_SIGN) {
                letIn(order.number, order.kind, order.colour);
            } else if (order.verb == RAIN_SIGN) {
                rain[order.place] = order.number;
            } else if (order.verb == PASS_SIGN) {
                letPass(order.number);
            }
            return true;
        }

        private boolean canObey(OrderText order) {
            if (order.verb == BUILD_SIGN) {
                return canBuild(order.place, order.roof);
            }
            if (order.verb == RESTOCK_SIGN) {
                return canRestock(order.place, order.level, order.number);
            }
            if (order.verb == FUND_SIGN) {
                return canFund(order.place, order.number);
            }
            if (order.verb == COME_SIGN) {
                return children.haveRoom();
            }
            if (order.verb == RAIN_SIGN) {
                return order.place >= 0 && order.place < HOURS;
            }
            return canPass(order.number);
        }

        boolean hasStall(int stall) {
            return stall >= 0 && stall < stallCount;
        }

        boolean canBuild(int pitch, boolean hasRoof) {
            return findStall(pitch) == NONE && stallCount < MOST_STALLS && bank >= costOfStall(hasRoof);
        }

        int buildStall(int pitch, int kind, int price, boolean hasRoof) {
            int cost = costOfStall(hasRoof);
            bank -= cost;
            spent += cost;
            return addStall(pitch, kind, price, hasRoof);
        }

        /** Adds a stall that costs nothing; returns its number. */
        int addStall(int pitch, int kind, int price, boolean hasRoof) {
            int stall = stallCount;
            if (stall <= MOST_STALLS) {
                stalls[stall].setUp(pitch, kind, price, hasRoof);
                stallCount++;
            }
            return stall;
        }

        void removeStall(int stall) {
            for (int i = stall; i + 1 < stallCount; i++) {
                stalls[i].copyFrom(stalls[i + 1]);
            }
            stallCount--;
        }

        boolean canRestock(int stall, int level, int many) {
            return hasStall(stall)
                    && stalls[stall].prizesOnShelf() + many <= MOST_ON_SHELF
                    && stalls[stall].purse >= costOfPrize(level) * many;
        }

        void putPrizes(int stall, int level, int colour, int many) {
            int cost = costOfPrize(level) * many;
            stalls[stall].purse -= cost;
            spent += cost;
            stalls[stall].shelf[level * COLOURS + colour] += many;
        }

        boolean canFund(int stall, int coins) {
            return hasStall(stall) && bank >= coins;
        }

        void giveCoins(int stall, int coins) {
            bank -= coins;
            stalls[stall].purse += coins;
        }

        int emptyPurse(int stall) {
            int coins = stalls[stall].purse;
            stalls[stall].purse = 0;
            bank += coins;
            return coins;
        }

        int letIn(int purse, int kind, int colour) {
            brought += purse;
            return children.add(purse, kind, colour);
        }

        int findStall(int pitch) {
            for (int stall = 0; stall < stallCount; stall++) {
                if (stalls[stall].pitch == pitch) {
                    return stall;
                }
            }
            return NONE;
        }

        /** Returns the open stall on a pitch, null if there is none. */
        Stall openStallOn(int pitch) {
            int stall = findStall(pitch);
            return stall != NONE && stalls[stall].open ? stalls[stall] : null;
        }

        int coinsInStalls() {
            int coins = 0;
            for (int stall = 0; stall < stallCount; stall++) {
                coins += stalls[stall].purse;
            }
            return coins;
        }

        int rainToday(int hour) {
            int more = day % 7 == 6 ? 4 : 0;
            return Math.min(MOST_RAIN, rain[hour] + more);
        }

        boolean childComesNext() {
            int wet = rainToday(round / ROUNDS_AN_HOUR);
            boolean inTime = wet == 0 ? round % 4 == 0 : wet <= 4 && round % 8 == 0;
            return inTime && children.haveRoom();
        }

        boolean canPass(int rounds) {
            return day + (round + rounds) / ROUNDS_A_DAY <= MOST_DAY;
        }

        void letPass(int rounds) {
            for (int i = 0; i < rounds; i++) {
                if (childComesNext()) {
                    letNextIn();
                }
                freeStalls();
                int wet = rainToday(round / ROUNDS_AN_HOUR);
                for (int child = children.firstToday; child < children.count; child++) {
                    if (children.place[child] != NONE) {
                        takeTurn(child, wet);
                    }
                }
                round++;
                if (round >= ROUNDS_A_DAY) {
                    endDay();
                }
            }
        }

        private void letNextIn() {
            int child = children.count;
            letIn(5 + (7 * child) % 25, child % KINDS, child % COLOURS);
        }

        private void freeStalls() {
            for (int stall = 0; stall < stallCount; stall++) {
                stalls[stall].taken = false;
            }
        }

        private void takeTurn(int child, int wet) {
            Stall stall = openStallOn(children.place[child]);
            if (stall == null || !stall.roof) {
                children.changeMood(child, -(wet / 2));
            }
            if (children.mood[child] == 0) {
                children.goHome(child);
            } else if (stall != null && !stall.taken && children.reasonAgainst(child, stall) == 0) {
                play(child, stall);
            } else {
                children.moveOn(child);
            }
        }

        private void play(int child, Stall stall) {
            // Asked before the play is counted: 1 is this very play.
            boolean wins = stall.playsUntilWin() == 1;
            pay(child, stall);
            int level = wins ? stall.levelOnOffer() : NONE;
            int favourite = children.colour[child];
            int colour = level == NONE ? NONE : stall.colourOnOffer(level, favourite);
            if (colour != NONE) {
                handOver(child, stall, level, colour);
                children.changeMood(child, PRIZE_MOOD + (colour == favourite ? COLOUR_MOOD : 0));
            } else {
                children.changeMood(child, stall.kind == TEA ? TEA_MOOD : -LOSS_MOOD);
            }
        }

        private void pay(int child, Stall stall) {
            children.purse[child] -= stall.price;
            children.playsHere[child]++;
            stall.purse += stall.price;
            stall.plays++;
            stall.taken = true;
            takings += stall.price;
            plays++;
        }

        private void handOver(int child, Stall stall, int level, int colour) {
            stall.shelf[level * COLOURS + colour]--;
            children.prizes[child]++;
            won[level]++;
        }

        private void endDay() {
            children.allGoHome();
            for (int stall = 0; stall < stallCount; stall++) {
                if (stalls[stall].open) {
                    payRent(stalls[stall]);
                }
            }
            day++;
            round = 0;
        }

        private void payRent(Stall stall) {
            int paid = Math.min(stall.rent(), stall.purse);
            stall.open = stall.purse >= stall.rent();
            stall.purse -= paid;
            town += paid;
        }
    }

    /** The order text, and a reader that goes through it order by order. */
    private static final class OrderText {
        final char[] signs = new char[MOST_SIGNS];
        int length;
        /** Where the reader stands; where it fails, this is the first error. */
        int at;
        /** The number of orders that have been read. */
        int orders;
        // The order that was read last; which of these it has depends on its verb.
        char verb;
        /** A pitch, a stall or an hour. */
        int place;
        int kind;
        int level;
        int colour;
        /** A price, prizes, coins, a purse, a rain or rounds. */
        int number;
        boolean roof;

        boolean append(char sign) {
            if (length >= MOST_SIGNS) {
                return false;
            }
            signs[length] = sign;
            length++;
            return true;
        }

        void rewind() {
            at = 0;
            orders = 0;
        }

        int firstError() {
            rewind();
            for (int i = 0; i < MOST_SIGNS && readNext(); i++) {
                if (at == length) {
                    return NONE;
                }
            }
            return at;
        }

        /** Reads the next order; false at the end of the text or where it has an error. */
        boolean readNext() {
            if (orders > 0 && !readSign(';')) {
                return false;
            }
            if (!readOrder()) {
                return false;
            }
            orders++;
            return true;
        }

        private boolean readOrder() {
            if (at >= length) {
                return false;
            }
            verb = signs[at];
            if (readSign(BUILD_SIGN)) {
                return readPlace(PITCHES - 1) && readKind() && readCount(1, MOST_PRICE) && readRoof();
            }
            if (readSign(RESTOCK_SIGN)) {
                return readPlace(MOST_STALLS - 1) && readSign(':') && readLevel() && readColour()
                        && readSign('*') && readCount(1, MOST_ON_SHELF);
            }
            if (readSign(FUND_SIGN)) {
                return readPlace(MOST_STALLS - 1) && readSign('+') && readCount(1, MOST_FUNDED);
            }
            if (readSign(COME_SIGN)) {
                return readCount(0, MOST_PURSE) && readKind() && readColour();
            }
            if (readSign(RAIN_SIGN)) {
                return readPlace(HOURS - 1) && readSign('=') && readCount(0, MOST_RAIN);
            }
            return readSign(PASS_SIGN) && readCount(1, ROUNDS_A_DAY);
        }

        private boolean readSign(char sign) {
            if (at >= length || signs[at] != sign) {
                return false;
            }
            at++;
            return true;
        }

        private boolean readPlace(int most) {
            place = readDigits(0, most);
            return place != NONE;
        }

        private boolean readLevel() {
            level = readDigits(0, LEVELS - 1);
            return level != NONE;
        }

        private boolean readColour() {
            colour = readDigits(0, COLOURS - 1);
            return colour != NONE;
        }

        private boolean readCount(int least, int most) {
            number = readDigits(least, most);
            return number != NONE;
        }

        private boolean readRoof() {
            roof = readSign('^');
            return true;
        }

        private boolean readKind() {
            kind = kindAt(at);
            if (kind == NONE) {
                return false;
            }
            at++;
            return true;
        }

        /**
         * Reads a number of one or two digits, NONE where none can stand. A second digit that would
         * make it too great is left: then it is the next thing due that fails there.
         */
        private int readDigits(int least, int most) {
            int read = digitAt(at);
            if (read == NONE || read < least || read > most) {
                return NONE;
            }
            at++;
            int next = digitAt(at);
            if (read > 0 && next != NONE && read * 10 + next <= most) {
                read = read * 10 + next;
                at++;
            }
            return read;
        }

        private int digitAt(int index) {
            if (index >= length) {
                return NONE;
            }
            int digit = signs[index] - '0';
            return digit >= 0 && digit <= 9 ? digit : NONE;
        }

        private int kindAt(int index) {
            if (index >= length) {
                return NONE;
            }
            char sign = signs[index];
            if (sign == 'h') {
                return HOOPLA;
            }
            if (sign == 'd') {
                return DARTS;
            }
            if (sign == 'c') {
                return COCONUTS;
            }
            if (sign == 'l') {
                return DIP;
            }
            return sign == 't' ? TEA : NONE;
        }
    }
}
