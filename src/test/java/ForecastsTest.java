/** Promises 56 to 58: what would happen if rounds just passed; nothing changes. */
final class ForecastsTest {
    private static final Due DUE = new Due();

    public static void main(String[] args) {
        takingsToday();
        homeIn();
        homeAtTheEndOfTheDay();
        bestPitches();
        bestPitchesByPrice();
        bestPitchWithSixStalls();
        aStallWithoutRoofAndPrizes();
        wrongArguments();
        asThingsGo();
        DUE.end();
    }

    /** One child, from round 1 on, and none by itself. */
    private static PrizePurses alone(int purse, int kind) {
        PrizePurses x = Scene.quiet();
        for (int hour = 2; hour < 10; hour++) {
            x.setRain(hour, 5);
        }
        x.come(purse, kind, 0);
        return x;
    }

    private static void takingsToday() {
        DUE.is("56: an empty fair", new PrizePurses().takingsToday(), 0);
        PrizePurses x = alone(20, PrizePurses.TEA);
        DUE.is("56: no stall", x.takingsToday(), 0);
        x.build(3, PrizePurses.TEA, 2, true);
        String before = Answers.of(x);
        DUE.is("56: two plays on the way out, two on the way home", x.takingsToday(), 8);
        DUE.is("56: nothing changes", Answers.of(x), before);
        x.pass(5);
        DUE.is("53: takings", x.takings(), 4);
        DUE.is("56: what is still to come", x.takingsToday(), 4);
        x.setPrice(0, 9);
        DUE.is("56: one play at 9 of 16 coins", x.takingsToday(), 9);
        x.turnStall(0);
        DUE.is("56: closed", x.takingsToday(), 0);
        x.turnStall(0);
        x.setPrice(0, 2);
        x.pass(34);
        DUE.is("46: round", x.round(), 0);
        DUE.is("53: takings", x.takings(), 8);
        PrizePurses y = new PrizePurses();
        y.build(0, PrizePurses.TEA, 5, false);
        DUE.is("56: children to come, too", y.takingsToday() > 0, true);
        y.pass(39);
        y.fund(0, 1);
        DUE.is("56: the round 39", y.takingsToday(), 0);
        y.come(50, 0, 0);
        DUE.is("56: the round 39, and not the next day", y.takingsToday(), 5);
    }

    private static void homeIn() {
        PrizePurses x = alone(20, PrizePurses.TEA);
        x.setRain(2, 0);
        for (int hour = 2; hour < 10; hour++) {
            x.setRain(hour, 1);
        }
        DUE.is("57: 23 rounds without a play", x.homeIn(0), 23);
        x.build(3, PrizePurses.TEA, 2, true);
        String before = Answers.of(x);
        DUE.is("57: four plays more", x.homeIn(0), 27);
        DUE.is("57: nothing changes", Answers.of(x), before);
        x.pass(26);
        DUE.is("57: the last step", x.homeIn(0), 1);
        DUE.is("35: here", x.isAtFair(0), true);
        x.pass(1);
        DUE.is("57: gone", x.homeIn(0), 0);
        PrizePurses y = Scene.rain(new PrizePurses(), 9);
        y.come(0, 0, 0);
        DUE.is("57: a mood of 0 behind 15 rounds", y.homeIn(0), 15);
        y.pass(14);
        DUE.is("57: the last drops", y.homeIn(0), 1);
        y.pass(1);
        DUE.is("57: gone", y.homeIn(0), 0);
    }

    private static void homeAtTheEndOfTheDay() {
        PrizePurses x = Scene.rain(new PrizePurses(), 5);
        x.pass(30);
        x.come(0, 0, 0);
        DUE.is("57: ten rounds are left", x.homeIn(0), 10);
        x.pass(9);
        x.come(0, 0, 0);
        DUE.is("57: one is left", x.homeIn(1), 1);
        x.pass(1);
        DUE.is("57: gone", x.homeIn(1), 0);
    }

    private static void bestPitches() {
        PrizePurses x = alone(20, PrizePurses.TEA);
        String before = Answers.of(x);
        DUE.is("58: all alike but the last", x.bestPitch(PrizePurses.TEA, 2), 0);
        DUE.is("58: nothing changes", Answers.of(x), before);
        x.pass(3);
        DUE.is("58: four plays from here on", x.bestPitch(PrizePurses.TEA, 2), 3);
        x.build(3, PrizePurses.TEA, 9, false);
        x.turnStall(0);
        DUE.is("58: the next free one", x.bestPitch(PrizePurses.TEA, 2), 4);
        x.pass(9);
        DUE.is("38: homeward", x.placeOf(0), 10);
        DUE.is("58: two plays behind it alone", x.bestPitch(PrizePurses.TEA, 2), 0);
        PrizePurses y = new PrizePurses();
        Scene.rain(y, 5);
        DUE.is("58: nobody: the least one", y.bestPitch(0, 9), 0);
        y.build(0, 0, 1, false);
        DUE.is("58: the least free one", y.bestPitch(0, 9), 1);
        y.build(1, 0, 1, false);
        y.build(3, 0, 1, false);
        DUE.is("58: the least free one", y.bestPitch(0, 9), 2);
        PrizePurses z = Scene.quiet();
        z.pass(38);
        DUE.is("46: round", z.round(), 39);
        z.pass(40);
        z.come(50, 0, 0);
        DUE.is("58: what the last round takes", z.bestPitch(PrizePurses.HOOPLA, 5), 0);
    }

    /** A child whose coins, and then its mood in the rain, set bounds to its plays. */
    private static void bestPitchesByPrice() {
        PrizePurses x = alone(9, PrizePurses.TEA);
        x.build(0, PrizePurses.TEA, 1, false);
        // 9 coins, less two teas at the gate, pay one play of 7; on the way home it has none.
        DUE.is("58: beyond the teas", x.bestPitch(PrizePurses.HOOPLA, 7), 1);
        DUE.is("58: too dear everywhere", x.bestPitch(PrizePurses.HOOPLA, 8), 1);
        x.pass(4);
        DUE.is("38: place", x.placeOf(0), 2);
        DUE.is("58: one play anywhere, at the least free pitch", x.bestPitch(PrizePurses.TEA, 4), 1);
        // At 8 it comes by again with a mood of just 50, at the pitches before it with less.
        DUE.is("58: a third play, being content", x.bestPitch(PrizePurses.HOOPLA, 2), 8);
    }

    private static void bestPitchWithSixStalls() {
        PrizePurses x = alone(20, PrizePurses.TEA);
        for (int pitch = 0; pitch < 6; pitch++) {
            x.build(pitch, PrizePurses.HOOPLA, 9, false);
            x.turnStall(pitch);
        }
        for (int i = 0; i < 3; i++) {
            x.fund(0, 99);
        }
        x.fund(0, x.bank());
        DUE.is("49: an empty bank", x.bank(), 0);
        DUE.is("58: a seventh stall, without coins", x.bestPitch(PrizePurses.TEA, 3), 6);
        DUE.is("20: six", x.stalls(), 6);
        x.pass(8);
        DUE.is("58: where the child is", x.bestPitch(PrizePurses.TEA, 3), 8);
    }

    /** The rain is that of open pitches, and plays that would win bring nothing. */
    private static void aStallWithoutRoofAndPrizes() {
        PrizePurses x = Scene.rain(new PrizePurses(), 9);
        x.pass(1);
        x.come(60, PrizePurses.TEA, 0);
        // 60, 56, 52, 48: at the pitches 0 and 1 it plays once, with a roof it would twice at 1.
        DUE.is("58: a loss and the rain end its wish", x.bestPitch(PrizePurses.DIP, 5), 0);
        x.pass(2);
        DUE.is("37: mood", x.moodOf(0), 52);
        DUE.is("58: below 50 at its turn", x.bestPitch(PrizePurses.DIP, 5), 0);
        x.build(2, PrizePurses.DIP, 5, true);
        DUE.is("56: with a roof", x.takingsToday(), 5);
    }

    private static void wrongArguments() {
        PrizePurses x = alone(20, PrizePurses.TEA);
        for (int wrong : new int[] {-1, 5, Integer.MIN_VALUE, Integer.MAX_VALUE}) {
            DUE.noIndex(x, "58: kind " + wrong, () -> x.bestPitch(wrong, 0));
        }
        for (int wrong : new int[] {0, 10, Integer.MIN_VALUE, Integer.MAX_VALUE}) {
            DUE.noArgument(x, "58: price " + wrong, () -> x.bestPitch(0, wrong));
        }
    }

    /** What was foretold happens, on a busy day, from every round of it. */
    private static void asThingsGo() {
        PrizePurses x = new PrizePurses();
        x.build(1, PrizePurses.HOOPLA, 2, false);
        x.build(4, PrizePurses.TEA, 1, true);
        x.build(8, PrizePurses.DARTS, 3, false);
        x.fund(0, 60);
        x.restock(0, 2, 1, 5);
        x.setRain(3, 3);
        x.setRain(6, 7);
        int total = x.takingsToday();
        int home = -1;
        for (int round = 0; round < 40; round++) {
            DUE.is("56: round " + round, x.takings() + x.takingsToday(), total);
            x.pass(1);
            if (home < 0) {
                home = x.homeIn(0) + 1;
            }
            DUE.is("57: round " + round, x.homeIn(0), Math.max(0, home - round - 1));
        }
        DUE.is("53: takings", x.takings(), total);
    }
}
