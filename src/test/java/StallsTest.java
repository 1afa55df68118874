/** Promises 1 to 8 and 20 to 31: a new object, the actions on stalls, what stalls and shelves answer. */
final class StallsTest {
    private static final Due DUE = new Due();

    public static void main(String[] args) {
        aNewObject();
        building();
        buildingWithoutCoins();
        pullingDown();
        prices();
        turning();
        restocking();
        funding();
        collecting();
        rents();
        winningPlays();
        levelsToWin();
        questionsAboutNoStall();
        DUE.end();
    }

    private static void aNewObject() {
        PrizePurses x = new PrizePurses();
        DUE.is("1: bank", x.bank(), 500);
        DUE.is("1: all coins", x.allCoins(), 500);
        DUE.is("1: coins by places", x.coinsByPlaces(), 500);
        DUE.is("1: day", x.day(), 0);
        DUE.is("1: round", x.round(), 0);
        DUE.is("1: stalls", x.stalls(), 0);
        DUE.is("1: children", x.children(), 0);
        DUE.is("1: at the fair", x.atFair(), 0);
        DUE.is("1: town", x.town(), 0);
        DUE.is("1: takings", x.takings(), 0);
        DUE.is("1: plays", x.plays(), 0);
        DUE.is("1: recorded states", x.recordedStates(), 0);
        DUE.is("1: text error", x.textError(), 0);
        for (int hour = 0; hour < 10; hour++) {
            DUE.is("1: rain", x.rainIn(hour), 0);
        }
        for (int pitch = 0; pitch < 12; pitch++) {
            DUE.is("1: stall on", x.stallOn(pitch), PrizePurses.NONE);
        }
        DUE.noState(x, "1: undo", x::undo);
        DUE.noState(x, "1: restoreSnapshot", x::restoreSnapshot);
        PrizePurses other = new PrizePurses();
        other.build(0, 0, 1, false);
        DUE.is("1: objects of their own", x.stalls(), 0);
    }

    private static void building() {
        PrizePurses x = new PrizePurses();
        DUE.is("2: the first", x.build(11, PrizePurses.TEA, 9, true), 0);
        DUE.is("2: 50 with a roof", x.bank(), 450);
        DUE.is("2: the second", x.build(0, PrizePurses.HOOPLA, 1, false), 1);
        DUE.is("2: 30 without", x.bank(), 420);
        DUE.is("2: spent", x.coinsByPlaces(), 500);
        DUE.is("20: stalls", x.stalls(), 2);
        DUE.is("21: pitch", x.pitchOf(0), 11);
        DUE.is("21: pitch", x.pitchOf(1), 0);
        DUE.is("22: stall on 11", x.stallOn(11), 0);
        DUE.is("22: stall on 0", x.stallOn(0), 1);
        DUE.is("22: stall on 5", x.stallOn(5), PrizePurses.NONE);
        DUE.is("23: price", x.priceOf(0), 9);
        DUE.is("23: price", x.priceOf(1), 1);
        DUE.is("24: open at first", x.isOpen(0), true);
        DUE.is("25: purse at first", x.purseOfStall(0), 0);
        DUE.is("26: plays at first", x.playsOf(0), 0);
        DUE.is("30: shelf at first", x.shelfOf(0), 0);
        x.setPrice(0, 5);
        for (int wrong : new int[] {-1, 12, Integer.MIN_VALUE, Integer.MAX_VALUE}) {
            DUE.noIndex(x, "2: pitch " + wrong, () -> x.build(wrong, 0, 0, false));
            DUE.noIndex(x, "22: pitch " + wrong, () -> x.stallOn(wrong));
        }
        for (int wrong : new int[] {-1, 5, Integer.MIN_VALUE, Integer.MAX_VALUE}) {
            DUE.noIndex(x, "2: kind " + wrong, () -> x.build(0, wrong, 10, false));
        }
        for (int wrong : new int[] {0, 10, -1, Integer.MIN_VALUE, Integer.MAX_VALUE}) {
            DUE.noArgument(x, "2: price " + wrong + " on a taken pitch", () -> x.build(0, 0, wrong, false));
        }
        DUE.noState(x, "2: a taken pitch", () -> x.build(0, 0, 1, false));
        x.turnStall(1);
        DUE.noState(x, "2: a pitch with a closed stall", () -> x.build(0, 0, 1, false));
        for (int pitch = 1; pitch <= 4; pitch++) {
            DUE.is("2: number", x.build(pitch, pitch, 2, false), pitch + 1);
        }
        DUE.noState(x, "2: the seventh", () -> x.build(9, 0, 1, false));
        x.pullDown(5);
        DUE.is("2: the sixth again", x.build(9, 0, 1, false), 5);
    }

    private static void buildingWithoutCoins() {
        PrizePurses x = new PrizePurses();
        x.build(0, 0, 1, false);
        for (int i = 0; i < 4; i++) {
            x.fund(0, 99);
        }
        x.fund(0, 25);
        DUE.is("2: bank", x.bank(), 49);
        DUE.noState(x, "2: 49 coins for a roof", () -> x.build(1, 0, 1, true));
        x.fund(0, 20);
        DUE.noState(x, "2: 29 coins", () -> x.build(1, 0, 1, false));
        x.undo();
        x.fund(0, 19);
        DUE.is("2: 30 coins", x.build(1, 0, 1, false), 1);
        DUE.is("2: nothing left", x.bank(), 0);
        x.undo();
        x.undo();
        x.undo();
        x.fund(0, 24);
        DUE.is("2: 50 coins", x.build(1, 0, 1, true), 1);
    }

    private static void pullingDown() {
        PrizePurses x = new PrizePurses();
        x.build(3, PrizePurses.DIP, 1, false);
        x.build(7, PrizePurses.HOOPLA, 2, true);
        x.build(9, PrizePurses.TEA, 3, false);
        x.fund(0, 10);
        x.fund(1, 20);
        x.fund(2, 30);
        x.restock(1, 2, 3, 2);
        x.turnStall(2);
        int bank = x.bank();
        for (int wrong : new int[] {-1, 3, Integer.MIN_VALUE, Integer.MAX_VALUE}) {
            DUE.noIndex(x, "3: stall " + wrong, () -> x.pullDown(wrong));
        }
        DUE.is("3: coins", x.pullDown(0), 10);
        DUE.is("3: bank", x.bank(), bank + 10);
        DUE.is("3: stalls", x.stalls(), 2);
        DUE.is("3: stall on 3", x.stallOn(3), PrizePurses.NONE);
        DUE.is("3: stall on 7", x.stallOn(7), 0);
        DUE.is("3: stall on 9", x.stallOn(9), 1);
        DUE.is("3: prizes move along", x.prizesOn(0, 2, 3), 2);
        DUE.is("3: purse moves along", x.purseOfStall(0), 8);
        DUE.is("3: price moves along", x.priceOf(1), 3);
        DUE.is("3: closed moves along", x.isOpen(1), false);
        DUE.is("3: kind moves along", x.playsToWin(1), PrizePurses.NONE);
        DUE.is("3: coins", x.pullDown(0), 8);
        DUE.is("3: prizes are gone", x.shelfOf(0), 0);
        DUE.is("3: but paid", x.coinsByPlaces(), 500);
        DUE.is("3: the last", x.pullDown(0), 30);
        DUE.is("3: none left", x.stalls(), 0);
        x.build(7, PrizePurses.COCONUTS, 2, false);
        DUE.is("3: a new stall has an empty shelf", x.shelfOf(0), 0);
        DUE.is("3: an empty purse", x.pullDown(0), 0);
        aStallAfterAnother();
    }

    /** A new stall has nothing of those that had its number before. */
    private static void aStallAfterAnother() {
        PrizePurses x = Scene.quiet();
        x.build(1, PrizePurses.TEA, 9, true);
        x.build(0, PrizePurses.HOOPLA, 1, true);
        x.fund(1, 40);
        x.restock(1, 2, 2, 3);
        x.restock(1, 0, 0, 3);
        x.restock(1, 3, 3, 1);
        x.come(1, PrizePurses.HOOPLA, 0);
        x.pass(1);
        x.turnStall(1);
        x.pullDown(0);
        DUE.is("2: the second", x.build(2, PrizePurses.DARTS, 4, false), 1);
        DUE.is("2: its purse", x.purseOfStall(1), 0);
        DUE.is("2: its plays", x.playsOf(1), 0);
        DUE.is("2: its shelf", x.shelfOf(1), 0);
        DUE.is("2: it is open", x.isOpen(1), true);
        DUE.is("2: its next win", x.playsToWin(1), 3);
        x.setRain(0, 9);
        x.setRain(1, 9);
        x.come(0, 0, 0);
        x.pass(3);
        DUE.is("2: it has no roof", x.moodOf(1), 60 - 12);
        DUE.is("52: coins", x.coinsByPlaces(), x.allCoins());
    }

    private static void prices() {
        PrizePurses x = new PrizePurses();
        x.build(3, PrizePurses.DIP, 4, false);
        DUE.is("4: previous", x.setPrice(0, 9), 4);
        DUE.is("4: afterwards", x.priceOf(0), 9);
        DUE.is("4: previous", x.setPrice(0, 1), 9);
        DUE.is("4: the same", x.setPrice(0, 1), 1);
        DUE.noIndex(x, "4: stall before price", () -> x.setPrice(1, 0));
        DUE.noIndex(x, "4: stall before price", () -> x.setPrice(-1, 10));
        DUE.noArgument(x, "4: price 0", () -> x.setPrice(0, 0));
        DUE.noArgument(x, "4: price 10", () -> x.setPrice(0, 10));
    }

    private static void turning() {
        PrizePurses x = new PrizePurses();
        x.build(3, PrizePurses.DIP, 4, false);
        DUE.is("5: closed", x.turnStall(0), false);
        DUE.is("24: closed", x.isOpen(0), false);
        DUE.is("22: closed, yet there", x.stallOn(3), 0);
        DUE.is("5: open", x.turnStall(0), true);
        DUE.is("24: open", x.isOpen(0), true);
        DUE.noIndex(x, "5: stall 1", () -> x.turnStall(1) ? 1 : 0);
        DUE.noIndex(x, "5: stall -1", () -> x.turnStall(-1) ? 1 : 0);
    }

    private static void restocking() {
        PrizePurses x = new PrizePurses();
        x.build(3, PrizePurses.DIP, 4, false);
        x.fund(0, 99);
        DUE.is("6: level 0 costs 1", x.restock(0, 0, 3, 5), 94);
        DUE.is("6: level 1 costs 3", x.restock(0, 1, 2, 4), 82);
        DUE.is("6: level 2 costs 6", x.restock(0, 2, 1, 3), 64);
        DUE.is("6: level 3 costs 10", x.restock(0, 3, 0, 2), 44);
        DUE.is("25: purse", x.purseOfStall(0), 44);
        DUE.is("52: spent", x.coinsByPlaces(), 500);
        DUE.is("29: prizes", x.prizesOn(0, 0, 3), 5);
        DUE.is("29: prizes", x.prizesOn(0, 1, 2), 4);
        DUE.is("29: prizes", x.prizesOn(0, 2, 1), 3);
        DUE.is("29: prizes", x.prizesOn(0, 3, 0), 2);
        DUE.is("29: prizes", x.prizesOn(0, 3, 1), 0);
        DUE.is("30: shelf", x.shelfOf(0), 14);
        for (int wrong : new int[] {-1, 4, Integer.MAX_VALUE}) {
            DUE.noIndex(x, "6: level " + wrong, () -> x.restock(0, wrong, 0, 0));
            DUE.noIndex(x, "6: colour " + wrong, () -> x.restock(0, 0, wrong, 41));
            DUE.noIndex(x, "29: level " + wrong, () -> x.prizesOn(0, wrong, 0));
            DUE.noIndex(x, "29: colour " + wrong, () -> x.prizesOn(0, 0, wrong));
        }
        DUE.noIndex(x, "6: stall 1", () -> x.restock(1, 0, 0, 0));
        DUE.noIndex(x, "6: stall -1", () -> x.restock(-1, 0, 0, 1));
        for (int wrong : new int[] {0, 41, -1, Integer.MIN_VALUE, Integer.MAX_VALUE}) {
            DUE.noArgument(x, "6: many " + wrong, () -> x.restock(0, 3, 0, wrong));
        }
        DUE.noState(x, "6: 41 prizes on the shelf", () -> x.restock(0, 0, 0, 27));
        DUE.noState(x, "6: 45 coins of 44", () -> x.restock(0, 1, 0, 15));
        DUE.is("6: 42 coins of 44", x.restock(0, 1, 0, 14), 2);
        DUE.is("6: the last coins", x.restock(0, 0, 0, 2), 0);
        DUE.noState(x, "6: no coin", () -> x.restock(0, 0, 0, 1));
        x.fund(0, 99);
        DUE.is("6: 40 on the shelf", x.restock(0, 0, 1, 10), 89);
        DUE.is("30: 40", x.shelfOf(0), 40);
        DUE.noState(x, "6: full", () -> x.restock(0, 0, 1, 1));
        x.build(5, PrizePurses.TEA, 1, false);
        x.fund(1, 40);
        DUE.is("6: 40 at once, at TEA too", x.restock(1, 0, 0, 40), 0);
    }

    private static void funding() {
        PrizePurses x = new PrizePurses();
        x.build(3, PrizePurses.DIP, 4, false);
        DUE.is("7: purse", x.fund(0, 99), 99);
        DUE.is("7: bank", x.bank(), 371);
        DUE.is("7: purse", x.fund(0, 1), 100);
        DUE.noIndex(x, "7: stall 1", () -> x.fund(1, 0));
        DUE.noIndex(x, "7: stall -1", () -> x.fund(-1, 1));
        for (int wrong : new int[] {0, 100, -1, Integer.MIN_VALUE, Integer.MAX_VALUE}) {
            DUE.noArgument(x, "7: coins " + wrong, () -> x.fund(0, wrong));
        }
        for (int i = 0; i < 3; i++) {
            x.fund(0, 99);
        }
        DUE.is("7: bank", x.bank(), 73);
        DUE.noState(x, "7: 74 of 73", () -> x.fund(0, 74));
        DUE.is("7: all of 73", x.fund(0, 73), 470);
        DUE.noState(x, "7: an empty bank", () -> x.fund(0, 1));
        DUE.noArgument(x, "7: coins before the bank", () -> x.fund(0, 100));
    }

    private static void collecting() {
        PrizePurses x = new PrizePurses();
        x.build(3, PrizePurses.DIP, 4, false);
        x.fund(0, 50);
        DUE.is("8: moved", x.collect(0), 50);
        DUE.is("8: bank", x.bank(), 470);
        DUE.is("8: purse", x.purseOfStall(0), 0);
        DUE.is("8: nothing", x.collect(0), 0);
        DUE.noIndex(x, "8: stall 1", () -> x.collect(1));
        DUE.noIndex(x, "8: stall -1", () -> x.collect(-1));
    }

    private static void rents() {
        int[] due = {8, 7, 7, 6, 6, 5, 5, 4, 4, 3, 3, 2};
        for (int pitch = 0; pitch < 12; pitch++) {
            PrizePurses x = new PrizePurses();
            x.build(pitch, 0, 1, false);
            DUE.is("27: rent on " + pitch, x.rentOf(0), due[pitch]);
            x.turnStall(0);
            DUE.is("27: rent of a closed stall", x.rentOf(0), due[pitch]);
        }
    }

    /** Five children with one coin each come to the gate, one a round, and play once. */
    private static void winningPlays() {
        int[] due = {4, 3, 5, 1};
        for (int kind = 0; kind < 4; kind++) {
            PrizePurses x = Scene.quiet();
            x.build(0, kind, 1, false);
            for (int play = 0; play < 5; play++) {
                DUE.is("28: kind " + kind, x.playsToWin(0), due[kind] - play % due[kind]);
                DUE.is("26: kind " + kind, x.playsOf(0), play);
                x.come(1, kind, 0);
                DUE.is("11: a play", x.pass(1), 1);
            }
            DUE.is("26: five plays", x.playsOf(0), 5);
            DUE.is("23: price", x.purseOfStall(0), 5);
            x.build(1, kind, 1, false);
            DUE.is("28: a stall of its own", x.playsToWin(1), due[kind]);
        }
        PrizePurses x = Scene.quiet();
        x.build(0, PrizePurses.TEA, 1, false);
        DUE.is("28: TEA", x.playsToWin(0), PrizePurses.NONE);
        x.come(1, 0, 0);
        x.pass(1);
        DUE.is("28: TEA", x.playsToWin(0), PrizePurses.NONE);
    }

    private static void levelsToWin() {
        int[] due = {2, 1, 3, 0, PrizePurses.NONE};
        for (int kind = 0; kind < 5; kind++) {
            PrizePurses x = new PrizePurses();
            x.build(0, kind, 1, false);
            x.fund(0, 40);
            DUE.is("31: an empty shelf", x.levelToWin(0), PrizePurses.NONE);
            for (int level = 0; level < 4; level++) {
                x.restock(0, level, level, 1);
                int want = kind == 4 ? PrizePurses.NONE : Math.min(level, due[kind]);
                DUE.is("31: kind " + kind + " up to level " + level, x.levelToWin(0), want);
            }
            PrizePurses y = new PrizePurses();
            y.build(0, kind, 1, false);
            y.fund(0, 40);
            y.restock(0, 3, 3, 1);
            DUE.is("31: kind " + kind + ", level 3 alone", y.levelToWin(0), kind == 2 ? 3 : PrizePurses.NONE);
        }
    }

    private static void questionsAboutNoStall() {
        for (int wrong : new int[] {-1, 1, 6, Integer.MIN_VALUE, Integer.MAX_VALUE}) {
            PrizePurses x = new PrizePurses();
            x.build(0, 0, 1, false);
            DUE.noIndex(x, "21: stall " + wrong, () -> x.pitchOf(wrong));
            DUE.noIndex(x, "23: stall " + wrong, () -> x.priceOf(wrong));
            DUE.noIndex(x, "24: stall " + wrong, () -> x.isOpen(wrong) ? 1 : 0);
            DUE.noIndex(x, "25: stall " + wrong, () -> x.purseOfStall(wrong));
            DUE.noIndex(x, "26: stall " + wrong, () -> x.playsOf(wrong));
            DUE.noIndex(x, "27: stall " + wrong, () -> x.rentOf(wrong));
            DUE.noIndex(x, "28: stall " + wrong, () -> x.playsToWin(wrong));
            DUE.noIndex(x, "29: stall " + wrong, () -> x.prizesOn(wrong, 0, 0));
            DUE.noIndex(x, "30: stall " + wrong, () -> x.shelfOf(wrong));
            DUE.noIndex(x, "31: stall " + wrong, () -> x.levelToWin(wrong));
        }
    }
}
