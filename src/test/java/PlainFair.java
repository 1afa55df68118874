import java.util.ArrayDeque;
import java.util.ArrayList;
import java.util.Arrays;
import java.util.Deque;
import java.util.List;
import java.util.regex.Matcher;
import java.util.regex.Pattern;

/**
 * The document told a second time, in the plainest way and with the whole library: everything is
 * copied, sought and counted anew, texts are matched by a regular expression.
 */
final class PlainFair {
    private static final int[] WINS = {4, 3, 5, 1};
    private static final int[] TOP = {2, 1, 3, 0};
    private static final int[] COST = {1, 3, 6, 10};
    private static final String FORTY = "(?:40|[1-3][0-9]|[1-9])";
    private static final String ORDER = "(?:b(?:1[01]|[0-9])[hdclt][1-9]\\^?"
            + "|r[0-5]:[0-3][0-3]\\*" + FORTY
            + "|f[0-5]\\+[1-9][0-9]?"
            + "|c(?:[1-9][0-9]|[0-9])[hdclt][0-3]"
            + "|w[0-9]=[0-9]"
            + "|p" + FORTY + ")";
    private static final Pattern TEXT = Pattern.compile(ORDER + "(?:;" + ORDER + ")*");

    static final class Booth implements Cloneable {
        int pitch;
        int kind;
        int price;
        boolean roof;
        boolean open = true;
        int purse;
        int plays;
        List<int[]> prizes = new ArrayList<>();

        Booth copy() {
            try {
                Booth copy = (Booth) clone();
                copy.prizes = new ArrayList<>(prizes);
                return copy;
            } catch (CloneNotSupportedException e) {
                throw new AssertionError(e);
            }
        }

        int[] prizeFor(int colour) {
            int[] best = null;
            for (int[] prize : prizes) {
                if (kind == 4 || prize[0] > TOP[kind]) {
                    continue;
                }
                if (best == null || rank(prize, colour) > rank(best, colour)) {
                    best = prize;
                }
            }
            return best;
        }

        private static int rank(int[] prize, int colour) {
            return prize[0] * 100 + (prize[1] == colour ? 50 : 10 - prize[1]);
        }
    }

    static final class Kid implements Cloneable {
        int purse;
        int kind;
        int colour;
        int mood = 60;
        int pitch;
        boolean homeward;
        boolean gone;
        int here;
        int prizes;

        Kid copy() {
            try {
                return (Kid) clone();
            } catch (CloneNotSupportedException e) {
                throw new AssertionError(e);
            }
        }

        void leave() {
            gone = true;
            homeward = true;
        }
    }

    static final class State {
        int bank = 500;
        int town;
        int spent;
        int brought;
        int takings;
        int plays;
        int day;
        int round;
        int[] rain = new int[10];
        int[] won = new int[4];
        List<Booth> booths = new ArrayList<>();
        List<Kid> kids = new ArrayList<>();

        State copy() {
            State copy = new State();
            copy.bank = bank;
            copy.town = town;
            copy.spent = spent;
            copy.brought = brought;
            copy.takings = takings;
            copy.plays = plays;
            copy.day = day;
            copy.round = round;
            copy.rain = rain.clone();
            copy.won = won.clone();
            for (Booth booth : booths) {
                copy.booths.add(booth.copy());
            }
            for (Kid kid : kids) {
                copy.kids.add(kid.copy());
            }
            return copy;
        }

        Booth on(int pitch) {
            for (Booth booth : booths) {
                if (booth.pitch == pitch) {
                    return booth;
                }
            }
            return null;
        }

        int rainIn(int hour) {
            return day % 7 == 6 ? Math.min(9, rain[hour] + 4) : rain[hour];
        }

        int atFair() {
            int here = 0;
            for (Kid kid : kids) {
                here += kid.gone ? 0 : 1;
            }
            return here;
        }

        boolean room() {
            return kids.size() < 200 && atFair() < 40;
        }

        boolean due() {
            int wet = rainIn(round / 4);
            return (round % 4 == 0 && wet == 0 || round % 8 == 0 && wet >= 1 && wet <= 4) && room();
        }

        int admit(int purse, int kind, int colour) {
            Kid kid = new Kid();
            kid.purse = purse;
            kid.kind = kind;
            kid.colour = colour;
            kids.add(kid);
            brought += purse;
            return kids.size() - 1;
        }

        void passOne() {
            if (due()) {
                int n = kids.size();
                admit(5 + 7 * n % 25, n % 5, n % 4);
            }
            List<Booth> busy = new ArrayList<>();
            for (Kid kid : kids) {
                if (!kid.gone) {
                    turn(kid, busy);
                }
            }
            if (++round == 40) {
                for (Kid kid : kids) {
                    kid.leave();
                }
                for (Booth booth : booths) {
                    int rent = 2 + (12 - booth.pitch) / 2;
                    if (booth.open && booth.purse < rent) {
                        town += booth.purse;
                        booth.purse = 0;
                        booth.open = false;
                    } else if (booth.open) {
                        town += rent;
                        booth.purse -= rent;
                    }
                }
                round = 0;
                day++;
            }
        }

        private void turn(Kid kid, List<Booth> busy) {
            Booth booth = on(kid.pitch);
            if (booth != null && !booth.open) {
                booth = null;
            }
            if (booth == null || !booth.roof) {
                kid.mood = Math.max(0, kid.mood - rainIn(round / 4) / 2);
            }
            if (kid.mood == 0) {
                kid.leave();
            } else if (booth != null && why(kid, booth) == 0 && !busy.contains(booth)) {
                busy.add(booth);
                play(kid, booth);
            } else {
                kid.here = 0;
                if (kid.homeward && kid.pitch == 0) {
                    kid.leave();
                } else if (kid.homeward) {
                    kid.pitch--;
                } else if (kid.pitch == 11) {
                    kid.homeward = true;
                    kid.pitch = 10;
                } else {
                    kid.pitch++;
                }
            }
        }

        static int why(Kid kid, Booth booth) {
            if (kid.purse < booth.price) {
                return 3;
            }
            if (kid.here == 2) {
                return 4;
            }
            return booth.kind == kid.kind || booth.kind == 4 || kid.mood >= 50 ? 0 : 5;
        }

        private void play(Kid kid, Booth booth) {
            kid.purse -= booth.price;
            booth.purse += booth.price;
            takings += booth.price;
            plays++;
            booth.plays++;
            kid.here++;
            if (booth.kind == 4) {
                kid.mood = Math.min(100, kid.mood + 15);
                return;
            }
            int[] prize = booth.plays % WINS[booth.kind] == 0 ? booth.prizeFor(kid.colour) : null;
            if (prize == null) {
                kid.mood = Math.max(0, kid.mood - 8);
                return;
            }
            booth.prizes.remove(prize);
            won[prize[0]]++;
            kid.prizes++;
            kid.mood = Math.min(100, kid.mood + (prize[1] == kid.colour ? 30 : 20));
        }
    }

    State state = new State();
    final StringBuilder text = new StringBuilder();
    private final Deque<State> recorded = new ArrayDeque<>();
    private State snapshot;

    private void record() {
        recorded.addLast(state.copy());
        if (recorded.size() > 4) {
            recorded.removeFirst();
        }
    }

    private static void index(int value, int bound) {
        if (value < 0 || value >= bound) {
            throw new IndexOutOfBoundsException();
        }
    }

    private static void argument(int value, int least, int most) {
        if (value < least || value > most) {
            throw new IllegalArgumentException();
        }
    }

    private static void need(boolean possible) {
        if (!possible) {
            throw new IllegalStateException();
        }
    }

    private Booth booth(int stall) {
        index(stall, state.booths.size());
        return state.booths.get(stall);
    }

    private Kid kid(int child) {
        index(child, state.kids.size());
        return state.kids.get(child);
    }

    int build(int pitch, int kind, int price, boolean roof) {
        index(pitch, 12);
        index(kind, 5);
        argument(price, 1, 9);
        int cost = roof ? 50 : 30;
        need(state.on(pitch) == null && state.booths.size() < 6 && state.bank >= cost);
        record();
        return doBuild(state, pitch, kind, price, roof, cost);
    }

    private static int doBuild(State s, int pitch, int kind, int price, boolean roof, int cost) {
        Booth booth = new Booth();
        booth.pitch = pitch;
        booth.kind = kind;
        booth.price = price;
        booth.roof = roof;
        s.booths.add(booth);
        s.bank -= cost;
        s.spent += cost;
        return s.booths.size() - 1;
    }

    int pullDown(int stall) {
        booth(stall);
        record();
        int coins = state.booths.remove(stall).purse;
        state.bank += coins;
        return coins;
    }

    int setPrice(int stall, int price) {
        booth(stall);
        argument(price, 1, 9);
        record();
        int old = booth(stall).price;
        booth(stall).price = price;
        return old;
    }

    int turnStall(int stall) {
        booth(stall);
        record();
        booth(stall).open ^= true;
        return booth(stall).open ? 1 : 0;
    }

    int restock(int stall, int level, int colour, int many) {
        booth(stall);
        index(level, 4);
        index(colour, 4);
        argument(many, 1, 40);
        need(booth(stall).prizes.size() + many <= 40 && booth(stall).purse >= many * COST[level]);
        record();
        return doRestock(state, stall, level, colour, many);
    }

    private static int doRestock(State s, int stall, int level, int colour, int many) {
        Booth booth = s.booths.get(stall);
        for (int i = 0; i < many; i++) {
            booth.prizes.add(new int[] {level, colour});
        }
        booth.purse -= many * COST[level];
        s.spent += many * COST[level];
        return booth.purse;
    }

    int fund(int stall, int coins) {
        booth(stall);
        argument(coins, 1, 99);
        need(state.bank >= coins);
        record();
        state.bank -= coins;
        return booth(stall).purse += coins;
    }

    int collect(int stall) {
        booth(stall);
        record();
        int coins = booth(stall).purse;
        booth(stall).purse = 0;
        state.bank += coins;
        return coins;
    }

    int come(int purse, int kind, int colour) {
        index(kind, 5);
        index(colour, 4);
        argument(purse, 0, 99);
        need(state.room());
        record();
        return state.admit(purse, kind, colour);
    }

    int setRain(int hour, int rain) {
        index(hour, 10);
        argument(rain, 0, 9);
        record();
        int old = state.rain[hour];
        state.rain[hour] = rain;
        return old;
    }

    int pass(int rounds) {
        argument(rounds, 1, 40);
        need(state.day + (state.round + rounds >= 40 ? 1 : 0) <= 9999);
        record();
        int before = state.plays;
        for (int i = 0; i < rounds; i++) {
            state.passOne();
        }
        return state.plays - before;
    }

    int type(char character) {
        need(text.length() < 80);
        return text.append(character).length();
    }

    int clearText() {
        int length = text.length();
        text.setLength(0);
        return length;
    }

    int textError() {
        for (int length = 1; length <= text.length(); length++) {
            Matcher matcher = TEXT.matcher(text.substring(0, length));
            // A text that the matcher ran out of can be made longer to a valid one.
            if (!matcher.matches() && !matcher.hitEnd()) {
                return length - 1;
            }
        }
        return TEXT.matcher(text).matches() ? -1 : text.length();
    }

    private static boolean carry(State s, String order) {
        int place = order.length() > 1 ? order.charAt(1) - '0' : 0;
        char verb = order.charAt(0);
        if (verb == 'b') {
            boolean roof = order.endsWith("^");
            String bare = roof ? order.substring(0, order.length() - 1) : order;
            int pitch = Integer.parseInt(bare.substring(1, bare.length() - 2));
            int cost = roof ? 50 : 30;
            if (s.on(pitch) != null || s.booths.size() == 6 || s.bank < cost) {
                return false;
            }
            doBuild(s, pitch, "hdclt".indexOf(bare.charAt(bare.length() - 2)),
                    bare.charAt(bare.length() - 1) - '0', roof, cost);
        } else if (verb == 'r') {
            int level = order.charAt(3) - '0';
            int many = Integer.parseInt(order.substring(6));
            if (place >= s.booths.size() || s.booths.get(place).prizes.size() + many > 40
                    || s.booths.get(place).purse < many * COST[level]) {
                return false;
            }
            doRestock(s, place, level, order.charAt(4) - '0', many);
        } else if (verb == 'f') {
            int coins = Integer.parseInt(order.substring(3));
            if (place >= s.booths.size() || s.bank < coins) {
                return false;
            }
            s.bank -= coins;
            s.booths.get(place).purse += coins;
        } else if (verb == 'c') {
            if (!s.room()) {
                return false;
            }
            int end = order.length();
            s.admit(Integer.parseInt(order.substring(1, end - 2)),
                    "hdclt".indexOf(order.charAt(end - 2)), order.charAt(end - 1) - '0');
        } else if (verb == 'w') {
            s.rain[place] = order.charAt(3) - '0';
        } else {
            for (int i = Integer.parseInt(order.substring(1)); i > 0; i--) {
                s.passOne();
                if (s.day > 9999) {
                    return false;
                }
            }
        }
        return true;
    }

    private int tryOrders(State s) {
        need(textError() == -1);
        String[] orders = text.toString().split(";");
        for (int i = 0; i < orders.length; i++) {
            if (!carry(s, orders[i])) {
                return i;
            }
        }
        return -1;
    }

    int impossibleOrder() {
        return tryOrders(state.copy());
    }

    int carryOut() {
        State after = state.copy();
        need(tryOrders(after) == -1);
        record();
        state = after;
        return text.toString().split(";").length;
    }

    int undo() {
        need(!recorded.isEmpty());
        state = recorded.removeLast();
        return recorded.size();
    }

    int takeSnapshot() {
        snapshot = state.copy();
        return state.bank;
    }

    int restoreSnapshot() {
        need(snapshot != null);
        record();
        state = snapshot.copy();
        return state.bank;
    }

    int stallOn(int pitch) {
        index(pitch, 12);
        return state.booths.indexOf(state.on(pitch));
    }

    /** Answers the calls that take a stall alone, by their places in the list of the driver. */
    int ofStall(int which, int stall) {
        Booth booth = booth(stall);
        switch (which) {
            case 0:
                return booth.pitch;
            case 1:
                return booth.price;
            case 2:
                return booth.open ? 1 : 0;
            case 3:
                return booth.purse;
            case 4:
                return booth.plays;
            case 5:
                return 2 + (12 - booth.pitch) / 2;
            case 6:
                return booth.kind == 4 ? -1 : WINS[booth.kind] - booth.plays % WINS[booth.kind];
            case 7:
                return booth.prizes.size();
            default:
                return booth.prizeFor(0) == null ? -1 : booth.prizeFor(0)[0];
        }
    }

    int prizesOn(int stall, int level, int colour) {
        booth(stall);
        index(level, 4);
        index(colour, 4);
        int found = 0;
        for (int[] prize : booth(stall).prizes) {
            found += Arrays.equals(prize, new int[] {level, colour}) ? 1 : 0;
        }
        return found;
    }

    int wonOf(int level) {
        index(level, 4);
        return state.won[level];
    }

    /** Answers the calls that take a child alone, by their places in the list of the driver. */
    int ofChild(int which, int child) {
        Kid kid = kid(child);
        switch (which) {
            case 0:
                return kid.gone ? 0 : 1;
            case 1:
                return kid.purse;
            case 2:
                return kid.mood;
            case 3:
                return kid.gone ? -1 : kid.pitch;
            case 4:
                return kid.homeward ? 1 : 0;
            case 5:
                return kid.prizes;
            case 6:
                return whyNoPlay(kid);
            default:
                return homeIn(child);
        }
    }

    private int whyNoPlay(Kid kid) {
        if (kid.gone) {
            return 1;
        }
        Booth booth = state.on(kid.pitch);
        return booth == null || !booth.open ? 2 : State.why(kid, booth);
    }

    private int homeIn(int child) {
        State later = state.copy();
        int rounds = 0;
        while (!later.kids.get(child).gone) {
            later.passOne();
            rounds++;
        }
        return rounds;
    }

    int crowdOn(int pitch) {
        index(pitch, 12);
        int crowd = 0;
        for (Kid kid : state.kids) {
            crowd += !kid.gone && kid.pitch == pitch ? 1 : 0;
        }
        return crowd;
    }

    int rainIn(int hour) {
        index(hour, 10);
        return state.rainIn(hour);
    }

    /** Answers the calls that take nothing, by their places in the list of the driver. */
    int ofFair(int which) {
        int inStalls = 0;
        for (Booth booth : state.booths) {
            inStalls += booth.purse;
        }
        int inPurses = 0;
        int sulkers = 0;
        Kid happiest = null;
        for (Kid kid : state.kids) {
            inPurses += kid.purse;
            if (!kid.gone) {
                sulkers += kid.mood < 50 ? 1 : 0;
                happiest = happiest == null || kid.mood > happiest.mood ? kid : happiest;
            }
        }
        int[] all = {
            state.booths.size(), state.kids.size(), state.atFair(), state.kids.indexOf(happiest), sulkers,
            state.day, state.round, state.due() ? 1 : 0, state.bank, state.town, 500 + state.brought,
            state.bank + inStalls + inPurses + state.town + state.spent, state.takings,
            state.brought - inPurses, state.plays, recorded.size(),
        };
        return all[which];
    }

    private static State dayEnd(State s) {
        for (int day = s.day; s.day == day; ) {
            s.passOne();
        }
        return s;
    }

    int takingsToday() {
        return dayEnd(state.copy()).takings - state.takings;
    }

    int bestPitch(int kind, int price) {
        index(kind, 5);
        argument(price, 1, 9);
        int best = -1;
        int most = -1;
        for (int pitch = 0; pitch < 12; pitch++) {
            if (state.on(pitch) == null) {
                State later = state.copy();
                int stall = doBuild(later, pitch, kind, price, false, 0);
                int taken = dayEnd(later).booths.get(stall).plays * price;
                if (taken > most) {
                    most = taken;
                    best = pitch;
                }
            }
        }
        return best;
    }
}
