/** Promises 17 to 19 and 59: undo, the snapshot, and the recorded states. */
final class UndoTest {
    private static final Due DUE = new Due();
    private static final int ACTIONS = 12;

    public static void main(String[] args) {
        everyAction();
        questionsAndTextsRecordNothing();
        fourStatesAreKept();
        undoAfterUndo();
        theTextStays();
        snapshots();
        theSnapshotIsNoState();
        childrenWhoCameLater();
        childrenWhoPlayed();
        favourites();
        DUE.end();
    }

    private static PrizePurses begun() {
        PrizePurses x = Scene.quiet();
        x.build(2, PrizePurses.DIP, 1, false);
        x.fund(0, 50);
        x.restock(0, 0, 1, 10);
        x.come(20, PrizePurses.DIP, 1);
        x.come(30, PrizePurses.TEA, 0);
        x.pass(3);
        x.build(5, PrizePurses.TEA, 2, true);
        return x;
    }

    private static void act(PrizePurses x, int which) {
        switch (which) {
            case 0:
                x.build(9, PrizePurses.DARTS, 3, true);
                break;
            case 1:
                x.pullDown(0);
                break;
            case 2:
                x.setPrice(0, 1);
                break;
            case 3:
                x.turnStall(0);
                break;
            case 4:
                x.restock(0, 1, 1, 2);
                break;
            case 5:
                x.fund(1, 9);
                break;
            case 6:
                x.collect(1);
                break;
            case 7:
                x.come(5, 3, 3);
                break;
            case 8:
                x.setRain(4, 0);
                break;
            case 9:
                x.pass(40);
                break;
            case 10:
                x.carryOut();
                break;
            default:
                x.restoreSnapshot();
        }
    }

    /** Each action records just one state, the one before it, even where it changes nothing. */
    private static void everyAction() {
        for (int which = 0; which < ACTIONS; which++) {
            PrizePurses x = begun();
            x.takeSnapshot();
            Scene.typed(x, "w3=7;b0h1;p11");
            x.undo();
            x.undo();
            x.turnStall(0);
            x.turnStall(0);
            x.undo();
            x.undo();
            x.build(5, PrizePurses.TEA, 2, true);
            String before = Answers.of(x);
            int recorded = x.recordedStates();
            DUE.is("59: recorded", recorded, 3);
            act(x, which);
            DUE.is("59: one more by action " + which, x.recordedStates(), recorded + 1);
            DUE.is("17: action " + which, x.undo(), recorded);
            DUE.is("17: as before action " + which, Answers.of(x), before);
        }
    }

    private static void questionsAndTextsRecordNothing() {
        PrizePurses x = new PrizePurses();
        Scene.typed(x, "b0h1");
        x.textError();
        x.impossibleOrder();
        x.takeSnapshot();
        x.takingsToday();
        x.bestPitch(0, 1);
        x.clearText();
        DUE.is("59: none", x.recordedStates(), 0);
        x.come(9, 0, 0);
        x.homeIn(0);
        DUE.is("59: one", x.recordedStates(), 1);
        DUE.is("17: none left", x.undo(), 0);
        DUE.is("33: undone", x.children(), 0);
        DUE.noState(x, "17: none", x::undo);
        DUE.noIndex(x, "a call that fails", () -> x.fund(0, 1));
        DUE.is("59: none", x.recordedStates(), 0);
    }

    private static void fourStatesAreKept() {
        PrizePurses x = new PrizePurses();
        for (int i = 1; i <= 11; i++) {
            x.setRain(0, i % 10);
            DUE.is("59: at most four", x.recordedStates(), Math.min(4, i));
        }
        int[] due = {0, 9, 8, 7};
        for (int i = 0; i < 4; i++) {
            DUE.is("17: left", x.undo(), 3 - i);
            DUE.is("17: rain", x.rainIn(0), due[i]);
        }
        DUE.noState(x, "17: the fifth", x::undo);
        DUE.is("47: rain", x.rainIn(0), 7);
    }

    private static void undoAfterUndo() {
        PrizePurses x = new PrizePurses();
        x.setRain(0, 1);
        x.setRain(0, 2);
        x.setRain(0, 3);
        DUE.is("17: left", x.undo(), 2);
        x.setRain(0, 5);
        DUE.is("59: three", x.recordedStates(), 3);
        DUE.is("17: left", x.undo(), 2);
        DUE.is("17: not 3", x.rainIn(0), 2);
        DUE.is("17: left", x.undo(), 1);
        DUE.is("17: rain", x.rainIn(0), 1);
        DUE.is("17: left", x.undo(), 0);
        DUE.is("17: rain", x.rainIn(0), 0);
    }

    private static void theTextStays() {
        PrizePurses x = new PrizePurses();
        Scene.typed(x, "p");
        x.setRain(0, 3);
        x.type('4');
        x.undo();
        DUE.is("17: the text is no part of the state", x.textError(), PrizePurses.NONE);
        x.takeSnapshot();
        x.type('0');
        x.restoreSnapshot();
        DUE.is("19: nor of the snapshot", x.clearText(), 3);
    }

    private static void snapshots() {
        PrizePurses x = begun();
        DUE.noState(x, "19: none", x::restoreSnapshot);
        String first = state(x);
        DUE.is("18: bank", x.takeSnapshot(), 370);
        x.build(7, PrizePurses.TEA, 2, false);
        x.pullDown(0);
        x.pass(25);
        DUE.is("19: bank", x.restoreSnapshot(), 370);
        DUE.is("19: the state", state(x), first);
        snapshotsAreKept();
    }

    private static void snapshotsAreKept() {
        PrizePurses x = begun();
        x.takeSnapshot();
        x.pass(1);
        String second = state(x);
        x.collect(0);
        DUE.is("19: it is kept", x.restoreSnapshot(), 370);
        DUE.is("19: the state", state(x), state(begun()));
        DUE.is("17: undone", x.undo(), 3);
        DUE.is("17: undone", x.undo(), 2);
        DUE.is("17: the state before", state(x), second);
        replacedSnapshots();
    }

    private static void replacedSnapshots() {
        PrizePurses x = begun();
        x.takeSnapshot();
        x.fund(0, 10);
        DUE.is("18: it replaces the other", x.takeSnapshot(), 360);
        String third = state(x);
        x.setPrice(0, 9);
        DUE.is("19: bank", x.restoreSnapshot(), 360);
        DUE.is("19: the state", state(x), third);
    }

    private static String state(PrizePurses x) {
        return Answers.of(x).replaceFirst("records \\d", "");
    }

    private static void theSnapshotIsNoState() {
        PrizePurses x = new PrizePurses();
        x.setRain(0, 3);
        x.takeSnapshot();
        DUE.is("59: no action", x.recordedStates(), 1);
        x.undo();
        DUE.is("19: it outlives undo", x.restoreSnapshot(), 500);
        DUE.is("47: rain", x.rainIn(0), 3);
        x.setRain(0, 4);
        x.restoreSnapshot();
        x.setRain(0, 5);
        x.restoreSnapshot();
        DUE.is("59: restoring is an action", x.recordedStates(), 4);
        DUE.is("17: undone", x.undo(), 3);
        DUE.is("47: rain", x.rainIn(0), 5);
    }

    private static void childrenWhoPlayed() {
        PrizePurses x = Scene.stocked(PrizePurses.DIP, 1, false, 1, 1, 1);
        x.takeSnapshot();
        x.come(9, PrizePurses.DIP, 1);
        x.pass(2);
        DUE.is("40: prizes", x.prizesOf(0), 2);
        DUE.is("41: enough", x.whyNoPlay(0), PrizePurses.ENOUGH);
        x.restoreSnapshot();
        x.come(9, PrizePurses.DIP, 1);
        DUE.is("40: none", x.prizesOf(0), 0);
        DUE.is("41: it would play", x.whyNoPlay(0), 0);
        DUE.is("37: mood", x.moodOf(0), 60);
    }

    /** What a child likes best comes back, too. */
    private static void favourites() {
        PrizePurses x = Scene.stocked(PrizePurses.DIP, 1, false, 1, 1, 2, 2);
        x.come(9, PrizePurses.DIP, 1);
        x.takeSnapshot();
        x.undo();
        x.come(9, PrizePurses.TEA, 2);
        x.restoreSnapshot();
        x.pass(1);
        DUE.is("19: its favourite colour", x.prizesOn(0, 0, 1), 1);
        DUE.is("19: its mood by that", x.moodOf(0), 90);
        DUE.is("17: undone", x.undo(), 3);
        DUE.is("17: undone", x.undo(), 2);
        x.pass(1);
        DUE.is("17: the other colour", x.prizesOn(0, 0, 2), 1);
        DUE.is("17: the other mood", x.moodOf(0), 90);
    }

    /** A child who was undone leaves nothing to the one who comes with the same number. */
    private static void childrenWhoCameLater() {
        PrizePurses x = begun();
        x.takeSnapshot();
        x.come(77, PrizePurses.COCONUTS, 2);
        x.pass(36);
        DUE.is("35: gone", x.isAtFair(2), false);
        x.restoreSnapshot();
        DUE.is("33: two", x.children(), 2);
        DUE.is("9: the same number", x.come(3, PrizePurses.DIP, 1), 2);
        DUE.is("36: purse", x.purseOf(2), 3);
        DUE.is("37: mood", x.moodOf(2), 60);
        DUE.is("38: place", x.placeOf(2), 0);
        DUE.is("39: outward", x.isHomeward(2), false);
        DUE.is("34: at the fair", x.atFair(), 3);
        x.undo();
        x.undo();
        DUE.is("34: nobody", x.atFair(), 0);
        DUE.is("36: 77 less four plays at 1 and four at 2", x.purseOf(2), 65);
        DUE.is("52: coins", x.coinsByPlaces(), x.allCoins());
    }
}
