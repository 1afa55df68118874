/** Promises 10, 11, 32 and 45 to 55: rain, rounds, the end of a day, and the accounts. */
final class RoundsTest {
    private static final Due DUE = new Due();

    public static void main(String[] args) {
        settingRain();
        rainOfTheSeventhDay();
        passingTakesOneToForty();
        walking();
        childrenByThemselves();
        whatTheyBring();
        losingMoodInTheRain();
        goingHomeAtMoodZero();
        roofs();
        onePlayAStallAndRound();
        twoPlaysHere();
        tea();
        winning();
        whichPrize();
        winningNothing();
        moodsFromNoneToHundred();
        theEndOfADay();
        rentsThatCannotBePaid();
        closedStallsInRounds();
        accounts();
        DUE.end();
    }

    private static void settingRain() {
        PrizePurses x = new PrizePurses();
        for (int hour = 0; hour < 10; hour++) {
            DUE.is("10: previous", x.setRain(hour, 9 - hour), 0);
        }
        for (int hour = 0; hour < 10; hour++) {
            DUE.is("47: rain", x.rainIn(hour), 9 - hour);
            DUE.is("10: previous", x.setRain(hour, hour), 9 - hour);
            DUE.is("47: rain", x.rainIn(hour), hour);
        }
        for (int wrong : new int[] {-1, 10, Integer.MIN_VALUE, Integer.MAX_VALUE}) {
            DUE.noIndex(x, "10: hour " + wrong, () -> x.setRain(wrong, 10));
            DUE.noIndex(x, "47: hour " + wrong, () -> x.rainIn(wrong));
            DUE.noArgument(x, "10: rain " + wrong, () -> x.setRain(0, wrong));
        }
    }

    private static void rainOfTheSeventhDay() {
        PrizePurses x = new PrizePurses();
        x.setRain(1, 6);
        x.setRain(2, 5);
        x.setRain(3, 1);
        for (int day = 0; day < 21; day++) {
            boolean more = day == 6 || day == 13 || day == 20;
            DUE.is("45: day", x.day(), day);
            DUE.is("47: rain of 0", x.rainIn(0), more ? 4 : 0);
            DUE.is("47: at most 9", x.rainIn(1), more ? 9 : 6);
            DUE.is("47: just 9", x.rainIn(2), more ? 9 : 5);
            DUE.is("47: rain of 1", x.rainIn(3), more ? 5 : 1);
            DUE.is("10: previous, without the 4", x.setRain(0, 1), 0);
            DUE.is("48: in a rain of 1 or 5", x.isChildDue(), !more);
            DUE.is("10: previous, without the 4", x.setRain(0, 0), 1);
            DUE.is("48: in a rain of 0 or 4", x.isChildDue(), true);
            x.come(0, 0, 0);
            x.pass(1);
            DUE.is("11: mood", x.moodOf(x.children() - 1), more ? 58 : 60);
            x.pass(39);
        }
    }

    private static void passingTakesOneToForty() {
        PrizePurses x = new PrizePurses();
        for (int wrong : new int[] {0, 41, -1, Integer.MIN_VALUE, Integer.MAX_VALUE}) {
            DUE.noArgument(x, "11: rounds " + wrong, () -> x.pass(wrong));
        }
        x.pass(1);
        DUE.is("46: round", x.round(), 1);
        x.pass(38);
        DUE.is("46: round", x.round(), 39);
        DUE.is("45: day", x.day(), 0);
        x.pass(1);
        DUE.is("46: round", x.round(), 0);
        DUE.is("45: day", x.day(), 1);
        x.pass(40);
        DUE.is("46: round", x.round(), 0);
        DUE.is("45: day", x.day(), 2);
        x.pass(39);
        x.pass(40);
        DUE.is("46: round", x.round(), 39);
        DUE.is("45: day", x.day(), 3);
    }

    private static void walking() {
        PrizePurses x = Scene.quiet();
        x.come(9, 0, 0);
        for (int pitch = 0; pitch < 11; pitch++) {
            DUE.is("38: outward", x.placeOf(0), pitch);
            DUE.is("39: outward", x.isHomeward(0), false);
            x.pass(1);
        }
        DUE.is("38: the last pitch", x.placeOf(0), 11);
        DUE.is("39: not yet homeward", x.isHomeward(0), false);
        for (int pitch = 10; pitch >= 0; pitch--) {
            x.pass(1);
            DUE.is("38: homeward", x.placeOf(0), pitch);
            DUE.is("39: homeward", x.isHomeward(0), true);
        }
        DUE.is("35: still here", x.isAtFair(0), true);
        x.pass(1);
        DUE.is("35: gone", x.isAtFair(0), false);
        DUE.is("38: gone", x.placeOf(0), PrizePurses.NONE);
    }

    private static void childrenByThemselves() {
        for (int rain = 0; rain < 10; rain++) {
            PrizePurses x = Scene.rain(new PrizePurses(), rain);
            for (int round = 0; round < 40; round++) {
                boolean due = rain == 0 ? round % 4 == 0 : rain <= 4 && round % 8 == 0;
                DUE.is("48: rain " + rain + ", round " + round, x.isChildDue(), due);
                int before = x.children();
                x.pass(1);
                DUE.is("11: rain " + rain + ", round " + round, x.children(), due ? before + 1 : before);
            }
        }
        PrizePurses x = new PrizePurses();
        x.setRain(1, 1);
        x.setRain(3, 5);
        x.setRain(4, 5);
        DUE.is("11: no plays", x.pass(40), 0);
        DUE.is("11: the hours of 7 rounds", x.children(), 7);
    }

    /** At a stall at the gate each of them plays twice and wins prizes of its favourite colour. */
    private static void whatTheyBring() {
        int[] purses = {5, 12, 19, 26, 8, 15, 22, 29, 11, 18};
        PrizePurses x = new PrizePurses();
        x.build(0, PrizePurses.DIP, 1, false);
        x.fund(0, 60);
        for (int colour = 0; colour < 4; colour++) {
            x.restock(0, 0, colour, 10);
        }
        for (int child = 0; child < 6; child++) {
            int colour = child % 4;
            int before = x.prizesOn(0, 0, colour);
            x.pass(4);
            DUE.is("11: purse less two plays", x.purseOf(child), purses[child] - 2);
            DUE.is("11: prizes of its colour", x.prizesOn(0, 0, colour), before - 2);
            DUE.is("40: prizes", x.prizesOf(child), 2);
        }
        // Before the first one is back at the gate and plays there again.
        x.pullDown(0);
        x.pass(16);
        for (int child = 6; child < 10; child++) {
            DUE.is("11: purse", x.purseOf(child), purses[child]);
        }
        DUE.is("51: all coins", x.allCoins(), 500 + 165);
        for (int kind = 0; kind < 5; kind++) {
            kindOfChild(kind);
        }
    }

    /** Child n comes by itself and loses its mood; then it wants its favourite kind and TEA alone. */
    private static void kindOfChild(int child) {
        PrizePurses x = Scene.rain(new PrizePurses(), 5);
        for (int i = 0; i < child; i++) {
            x.come(0, 0, 0);
        }
        x.setRain(0, 0);
        x.setRain(1, 9);
        x.setRain(2, 9);
        x.pass(7);
        DUE.is("37: three rounds of rain", x.moodOf(child), 60 - 12);
        for (int kind = 0; kind < 5; kind++) {
            x.build(7, kind, 1, false);
            boolean wants = kind == child || kind == PrizePurses.TEA;
            DUE.is("11: favourite of " + child, x.whyNoPlay(child), wants ? 0 : PrizePurses.SULKING);
            x.pullDown(0);
        }
    }

    private static void losingMoodInTheRain() {
        for (int rain = 0; rain < 10; rain++) {
            PrizePurses x = Scene.quiet();
            x.setRain(0, rain);
            x.come(0, 0, 0);
            x.pass(1);
            DUE.is("11: half of " + rain, x.moodOf(0), 60 - rain / 2);
            x.pass(2);
            DUE.is("11: three times half of " + rain, x.moodOf(0), 60 - rain / 2 * 3);
        }
        PrizePurses x = Scene.quiet();
        x.setRain(0, 8);
        x.setRain(1, 2);
        x.come(0, 0, 0);
        x.pass(3);
        DUE.is("11: the hour 0 has the rounds to 3", x.moodOf(0), 48);
        x.pass(1);
        DUE.is("11: the hour 1 begins with 4", x.moodOf(0), 47);
    }

    private static void goingHomeAtMoodZero() {
        PrizePurses x = Scene.rain(new PrizePurses(), 9);
        x.come(0, 0, 0);
        x.pass(14);
        DUE.is("37: mood", x.moodOf(0), 4);
        DUE.is("35: here", x.isAtFair(0), true);
        x.pass(1);
        DUE.is("37: mood", x.moodOf(0), 0);
        DUE.is("35: gone", x.isAtFair(0), false);
        PrizePurses y = Scene.rain(new PrizePurses(), 8);
        y.come(0, 0, 0);
        y.pass(7);
        Scene.rain(y, 7);
        y.pass(10);
        DUE.is("37: mood", y.moodOf(0), 2);
        y.pass(1);
        DUE.is("37: at least 0", y.moodOf(0), 0);
        DUE.is("35: gone", y.isAtFair(0), false);
    }

    private static void roofs() {
        PrizePurses x = Scene.quiet();
        x.setRain(0, 9);
        x.build(0, PrizePurses.DIP, 9, true);
        x.come(0, 0, 0);
        x.come(9, PrizePurses.DIP, 0);
        x.pass(1);
        DUE.is("11: a roof for all", x.moodOf(0), 60);
        DUE.is("11: under it only the loss", x.moodOf(1), 52);
        PrizePurses y = Scene.quiet();
        y.setRain(0, 9);
        y.build(0, PrizePurses.DIP, 9, true);
        y.turnStall(0);
        y.come(0, 0, 0);
        y.pass(1);
        DUE.is("11: a closed stall has no roof", y.moodOf(0), 56);
        PrizePurses z = Scene.quiet();
        z.setRain(0, 9);
        z.build(0, PrizePurses.DIP, 9, false);
        z.build(1, PrizePurses.DIP, 9, true);
        z.come(0, 0, 0);
        z.pass(1);
        DUE.is("11: the roof is elsewhere", z.moodOf(0), 56);
    }

    private static void onePlayAStallAndRound() {
        PrizePurses x = Scene.quiet();
        x.build(0, PrizePurses.TEA, 2, false);
        x.come(1, 0, 0);
        x.come(9, 0, 0);
        x.come(9, 0, 0);
        DUE.is("11: one play", x.pass(1), 1);
        DUE.is("38: too poor", x.placeOf(0), 1);
        DUE.is("38: played", x.placeOf(1), 0);
        DUE.is("38: too late", x.placeOf(2), 1);
        DUE.is("36: paid", x.purseOf(1), 7);
        DUE.is("36: not paid", x.purseOf(2), 9);
        x.build(1, PrizePurses.TEA, 3, false);
        DUE.is("11: a play at each stall", x.pass(1), 2);
        DUE.is("36: the one at the gate", x.purseOf(1), 5);
        DUE.is("36: the one behind", x.purseOf(2), 6);
    }

    private static void twoPlaysHere() {
        PrizePurses x = Scene.quiet();
        x.build(2, PrizePurses.TEA, 1, false);
        x.build(3, PrizePurses.TEA, 1, false);
        x.come(50, 0, 0);
        int[] places = {1, 2, 2, 2, 3, 3, 3, 4};
        for (int i = 0; i < places.length; i++) {
            x.pass(1);
            DUE.is("38: round " + i, x.placeOf(0), places[i]);
        }
        DUE.is("26: two plays", x.playsOf(0), 2);
        DUE.is("26: and two here", x.playsOf(1), 2);
        DUE.is("36: purse", x.purseOf(0), 46);
    }

    private static void tea() {
        PrizePurses x = Scene.stocked(PrizePurses.TEA, 3, false, 0, 30);
        x.come(7, 0, 0);
        x.setRain(0, 2);
        DUE.is("11: a play", x.pass(1), 1);
        DUE.is("37: rain, then tea", x.moodOf(0), 60 - 1 + 15);
        DUE.is("36: purse", x.purseOf(0), 4);
        DUE.is("25: purse", x.purseOfStall(0), 3);
        DUE.is("30: nothing is won", x.shelfOf(0), 2);
        DUE.is("40: nothing is won", x.prizesOf(0), 0);
    }

    private static void winning() {
        PrizePurses x = Scene.stocked(PrizePurses.DARTS, 2, false, 11, 11);
        x.come(50, PrizePurses.DARTS, 0);
        x.come(50, PrizePurses.DARTS, 1);
        DUE.is("11: plays", x.pass(2), 2);
        DUE.is("37: two losses", x.moodOf(0), 44);
        DUE.is("32: nothing yet", x.wonOf(1), 0);
        x.come(50, PrizePurses.DARTS, 2);
        x.pass(1);
        DUE.is("37: the third play wins", x.moodOf(2), 80);
        DUE.is("40: a prize", x.prizesOf(2), 1);
        DUE.is("32: won", x.wonOf(1), 1);
        DUE.is("29: left", x.prizesOn(0, 1, 1), 1);
        x.pass(1);
        DUE.is("37: the fourth does not", x.moodOf(2), 72);
        x.come(50, PrizePurses.DARTS, 1);
        x.pass(2);
        DUE.is("37: a loss, then the favourite colour", x.moodOf(3), 60 - 8 + 30);
        DUE.is("32: won", x.wonOf(1), 2);
        DUE.is("32: of another level", x.wonOf(0) + x.wonOf(2) + x.wonOf(3), 0);
        DUE.is("30: nothing left", x.shelfOf(0), 0);
        x.pullDown(0);
        DUE.is("32: won at a stall that is gone", x.wonOf(1), 2);
        for (int wrong : new int[] {-1, 4, Integer.MIN_VALUE, Integer.MAX_VALUE}) {
            DUE.noIndex(x, "32: level " + wrong, () -> x.wonOf(wrong));
        }
    }

    /** Shelves for COCONUTS with the fifth play to come: the prize that is taken, and the mood. */
    private static void whichPrize() {
        prize(1, 31, 90, 1, 31, 22);
        prize(2, 22, 90, 2, 22, 20, 21, 12, 2);
        prize(3, 20, 80, 0, 20, 21, 22, 13, 3);
        prize(0, 10, 90, 0, 10, 11, 0, 1);
        prize(3, 1, 80, 1, 1, 2);
        prize(3, 33, 90, 3, 30, 31, 32, 33);
        prize(2, 30, 80, 0, 30, 31, 33, 22);
    }

    private static void prize(int favourite, int taken, int mood, int colour, int... shelf) {
        PrizePurses x = Scene.stocked(PrizePurses.COCONUTS, 1, false, shelf);
        for (int play = 0; play < 4; play++) {
            x.come(1, PrizePurses.COCONUTS, 0);
            x.pass(1);
        }
        int before = x.prizesOn(0, taken / 10, colour);
        x.come(1, PrizePurses.COCONUTS, favourite);
        x.pass(1);
        DUE.is("29: prize " + taken, x.prizesOn(0, taken / 10, colour), before - 1);
        DUE.is("30: one prize", x.shelfOf(0), shelf.length - 1);
        DUE.is("37: mood by prize " + taken, x.moodOf(4), mood);
        DUE.is("32: won", x.wonOf(taken / 10), 1);
    }

    private static void winningNothing() {
        PrizePurses x = Scene.stocked(PrizePurses.DIP, 1, false, 10, 20, 30);
        x.come(1, PrizePurses.DIP, 0);
        x.pass(1);
        DUE.is("37: each play wins, yet no level 0", x.moodOf(0), 52);
        DUE.is("30: all prizes are there", x.shelfOf(0), 3);
        DUE.is("40: no prize", x.prizesOf(0), 0);
        PrizePurses y = Scene.stocked(PrizePurses.HOOPLA, 1, false, 30);
        for (int play = 0; play < 4; play++) {
            y.come(1, PrizePurses.HOOPLA, 0);
            y.pass(1);
            DUE.is("37: play " + play, y.moodOf(play), 52);
        }
        DUE.is("30: the level 3 is too great", y.shelfOf(0), 1);
    }

    private static void moodsFromNoneToHundred() {
        PrizePurses x = Scene.stocked(PrizePurses.DIP, 1, false, 0, 0);
        x.build(1, PrizePurses.TEA, 1, false);
        x.come(9, PrizePurses.DIP, 0);
        x.pass(1);
        DUE.is("37: 30 more", x.moodOf(0), 90);
        x.pass(1);
        DUE.is("37: at most 100", x.moodOf(0), 100);
        x.pass(2);
        DUE.is("37: at most 100 with tea", x.moodOf(0), 100);
        PrizePurses y = Scene.rain(new PrizePurses(), 9);
        y.build(9, PrizePurses.DIP, 1, false);
        y.build(10, PrizePurses.DIP, 1, false);
        y.come(9, PrizePurses.DIP, 0);
        y.pass(9);
        DUE.is("37: nine rounds of rain", y.moodOf(0), 24);
        y.pass(1);
        DUE.is("37: rain and loss", y.moodOf(0), 12);
        y.setRain(2, 8);
        y.pass(1);
        DUE.is("37: down to 0", y.moodOf(0), 0);
        DUE.is("35: but here until its turn", y.isAtFair(0), true);
        DUE.is("41: not a reason", y.whyNoPlay(0), PrizePurses.ENOUGH);
        y.setRain(2, 0);
        Scene.rain(y, 0);
        y.pass(1);
        DUE.is("35: gone without rain", y.isAtFair(0), false);
        DUE.is("36: and without a play", y.purseOf(0), 7);
        PrizePurses z = Scene.rain(new PrizePurses(), 9);
        z.build(11, PrizePurses.DIP, 1, false);
        z.come(9, PrizePurses.DIP, 0);
        z.pass(11);
        DUE.is("37: eleven rounds of rain", z.moodOf(0), 16);
        z.setRain(2, 8);
        z.pass(1);
        DUE.is("37: rain and loss", z.moodOf(0), 4);
        Scene.rain(z, 0);
        z.pass(1);
        DUE.is("37: a loss leaves at least 0", z.moodOf(0), 0);
    }

    private static void theEndOfADay() {
        PrizePurses x = Scene.quiet();
        x.build(0, PrizePurses.TEA, 1, false);
        x.build(11, PrizePurses.HOOPLA, 1, false);
        x.build(5, PrizePurses.DARTS, 1, false);
        x.fund(0, 20);
        x.fund(1, 20);
        x.fund(2, 20);
        x.turnStall(2);
        Scene.rain(x, 5);
        x.pass(38);
        DUE.is("46: round", x.round(), 39);
        x.come(9, PrizePurses.TEA, 0);
        x.come(9, PrizePurses.TEA, 0);
        DUE.is("50: no rent yet", x.town(), 0);
        DUE.is("11: the play of the last round", x.pass(1), 1);
        DUE.is("34: all go home", x.atFair(), 0);
        DUE.is("39: homeward", x.isHomeward(1), true);
        DUE.is("25: the play counts for the rent", x.purseOfStall(0), 20 + 1 - 8);
        DUE.is("25: rent 2", x.purseOfStall(1), 18);
        DUE.is("25: no rent if closed", x.purseOfStall(2), 20);
        DUE.is("50: town", x.town(), 10);
        DUE.is("24: open", x.isOpen(0) && x.isOpen(1), true);
        DUE.is("52: coins", x.coinsByPlaces(), x.allCoins());
        x.come(9, PrizePurses.TEA, 0);
        DUE.is("34: another day", x.atFair(), 1);
        DUE.is("35: the others stay at home", x.isAtFair(0), false);
    }

    private static void rentsThatCannotBePaid() {
        PrizePurses x = Scene.rain(new PrizePurses(), 5);
        x.build(4, PrizePurses.TEA, 1, false);
        x.build(5, PrizePurses.TEA, 1, false);
        x.build(6, PrizePurses.TEA, 1, false);
        x.fund(0, 6);
        x.fund(1, 4);
        x.pass(40);
        DUE.is("24: just the rent", x.isOpen(0), true);
        DUE.is("25: nothing left", x.purseOfStall(0), 0);
        DUE.is("24: one too few", x.isOpen(1), false);
        DUE.is("25: it pays what it has", x.purseOfStall(1), 0);
        DUE.is("24: none at all", x.isOpen(2), false);
        DUE.is("50: town", x.town(), 10);
        x.pass(40);
        DUE.is("24: closed on the next day", x.isOpen(0), false);
        DUE.is("50: town", x.town(), 10);
        x.turnStall(1);
        x.fund(1, 20);
        x.pass(40);
        DUE.is("50: opened again", x.town(), 15);
        DUE.is("24: still open", x.isOpen(1), true);
    }

    private static void closedStallsInRounds() {
        PrizePurses x = Scene.quiet();
        x.build(0, PrizePurses.TEA, 1, false);
        x.turnStall(0);
        x.come(9, PrizePurses.TEA, 0);
        DUE.is("11: no play", x.pass(1), 0);
        DUE.is("38: moved on", x.placeOf(0), 1);
    }

    private static void accounts() {
        PrizePurses x = Scene.quiet();
        x.build(0, PrizePurses.DIP, 3, true);
        x.fund(0, 20);
        x.restock(0, 0, 0, 10);
        x.come(10, PrizePurses.DIP, 0);
        x.come(10, PrizePurses.DIP, 0);
        x.pass(2);
        DUE.is("49: bank", x.bank(), 430);
        DUE.is("51: all coins", x.allCoins(), 520);
        DUE.is("52: by places", x.coinsByPlaces(), 520);
        DUE.is("53: takings", x.takings(), 6);
        DUE.is("54: by children", x.takingsByChildren(), 6);
        DUE.is("55: plays", x.plays(), 2);
        DUE.is("3: coins", x.pullDown(0), 16);
        DUE.is("49: bank", x.bank(), 446);
        DUE.is("53: takings of a stall that is gone", x.takings(), 6);
        DUE.is("55: plays of a stall that is gone", x.plays(), 2);
        x.build(2, PrizePurses.TEA, 1, false);
        x.setPrice(0, 2);
        x.pass(1);
        DUE.is("55: one more", x.plays(), 3);
        DUE.is("53: takings", x.takings(), 8);
        DUE.is("54: by children", x.takingsByChildren(), 8);
        x.pass(36);
        DUE.is("50: town", x.town(), 7);
        DUE.is("51: those who came by themselves", x.allCoins(), 520 + 19 + 26 + 8 + 15 + 22 + 29 + 11 + 18);
        DUE.is("52: by places", x.coinsByPlaces(), x.allCoins());
        DUE.is("54: by children", x.takingsByChildren(), x.takings());
        DUE.is("49: what the stall has is not the bank's", x.bank(), 416);
    }
}
