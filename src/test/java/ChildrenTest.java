/** Promises 9 and 33 to 44: children come, and what is asked about them. */
final class ChildrenTest {
    private static final Due DUE = new Due();

    public static void main(String[] args) {
        coming();
        fortyAtTheFair();
        twoHundred();
        aChildAsItComes();
        aChildAtHome();
        reasons();
        sulkingByMood();
        happiestAndSulkers();
        crowds();
        questionsAboutNoChild();
        DUE.end();
    }

    private static void coming() {
        PrizePurses x = Scene.quiet();
        DUE.is("9: the first", x.come(0, PrizePurses.TEA, 3), 0);
        DUE.is("9: the second", x.come(99, PrizePurses.HOOPLA, 0), 1);
        DUE.is("33: children", x.children(), 2);
        DUE.is("34: at the fair", x.atFair(), 2);
        DUE.is("51: all coins", x.allCoins(), 599);
        for (int wrong : new int[] {-1, 5, Integer.MIN_VALUE, Integer.MAX_VALUE}) {
            DUE.noIndex(x, "9: kind " + wrong, () -> x.come(100, wrong, 0));
        }
        for (int wrong : new int[] {-1, 4, Integer.MIN_VALUE, Integer.MAX_VALUE}) {
            DUE.noIndex(x, "9: colour " + wrong, () -> x.come(-1, 0, wrong));
        }
        for (int wrong : new int[] {-1, 100, Integer.MIN_VALUE, Integer.MAX_VALUE}) {
            DUE.noArgument(x, "9: purse " + wrong, () -> x.come(wrong, 0, 0));
        }
    }

    private static void fortyAtTheFair() {
        PrizePurses x = new PrizePurses();
        DUE.is("48: due", x.isChildDue(), true);
        for (int child = 0; child < 40; child++) {
            DUE.is("48: room behind " + child, x.isChildDue(), true);
            DUE.is("9: child", x.come(1, 0, 0), child);
        }
        DUE.is("34: at the fair", x.atFair(), 40);
        DUE.is("48: no room", x.isChildDue(), false);
        DUE.noState(x, "9: the 41st", () -> x.come(1, 0, 0));
        DUE.noArgument(x, "9: purse before room", () -> x.come(100, 0, 0));
        DUE.noIndex(x, "9: kind before room", () -> x.come(1, 5, 0));
        x.pass(1);
        DUE.is("11: none comes by itself", x.children(), 40);
    }

    /** Five days of 40 children; at a rain of 5 none comes by itself, and none stays that long. */
    private static void twoHundred() {
        PrizePurses x = Scene.rain(new PrizePurses(), 5);
        for (int day = 0; day < 5; day++) {
            for (int i = 0; i < 40; i++) {
                DUE.is("9: child", x.come(i, 0, 0), day * 40 + i);
            }
            x.pass(40);
        }
        DUE.is("33: children", x.children(), 200);
        DUE.is("34: all at home", x.atFair(), 0);
        DUE.noState(x, "9: child 200", () -> x.come(1, 0, 0));
        Scene.rain(x, 0);
        DUE.is("48: none is due any more", x.isChildDue(), false);
        x.pass(40);
        DUE.is("33: children", x.children(), 200);
        DUE.is("36: the last", x.purseOf(199), 39);
        DUE.noIndex(x, "36: child 200", () -> x.purseOf(200));
    }

    private static void aChildAsItComes() {
        PrizePurses x = Scene.quiet();
        x.come(42, PrizePurses.DARTS, 2);
        DUE.is("35: at the fair", x.isAtFair(0), true);
        DUE.is("36: purse", x.purseOf(0), 42);
        DUE.is("37: mood", x.moodOf(0), 60);
        DUE.is("38: place", x.placeOf(0), 0);
        DUE.is("39: outward", x.isHomeward(0), false);
        DUE.is("40: prizes", x.prizesOf(0), 0);
        DUE.is("41: no stall", x.whyNoPlay(0), PrizePurses.NO_STALL);
    }

    private static void aChildAtHome() {
        PrizePurses x = Scene.rain(new PrizePurses(), 9);
        x.build(2, PrizePurses.DARTS, 7, true);
        x.come(42, PrizePurses.DARTS, 2);
        x.pass(3);
        DUE.is("36: after a play", x.purseOf(0), 35);
        DUE.is("37: two rounds of rain and a loss", x.moodOf(0), 60 - 8 - 8);
        x.pass(37);
        DUE.is("35: gone", x.isAtFair(0), false);
        DUE.is("36: purse at home", x.purseOf(0), 28);
        DUE.is("37: mood at home", x.moodOf(0), 0);
        DUE.is("38: place", x.placeOf(0), PrizePurses.NONE);
        DUE.is("39: homeward", x.isHomeward(0), true);
        DUE.is("40: prizes", x.prizesOf(0), 0);
        DUE.is("41: gone", x.whyNoPlay(0), PrizePurses.GONE);
        DUE.is("42: none is happiest", x.happiest(), PrizePurses.NONE);
        DUE.is("43: none sulks", x.sulkers(), 0);
        x.build(0, PrizePurses.TEA, 1, false);
        DUE.is("41: gone, whatever the stalls", x.whyNoPlay(0), PrizePurses.GONE);
    }

    private static void reasons() {
        PrizePurses x = Scene.quiet();
        x.come(5, PrizePurses.DIP, 0);
        x.build(1, PrizePurses.TEA, 1, false);
        DUE.is("41: a stall elsewhere", x.whyNoPlay(0), PrizePurses.NO_STALL);
        x.build(0, PrizePurses.DIP, 6, false);
        DUE.is("41: 6 of 5 coins", x.whyNoPlay(0), PrizePurses.TOO_DEAR);
        x.setPrice(1, 5);
        DUE.is("41: 5 of 5 coins", x.whyNoPlay(0), 0);
        x.turnStall(1);
        DUE.is("41: closed", x.whyNoPlay(0), PrizePurses.NO_STALL);
        x.turnStall(1);
        x.setPrice(1, 2);
        x.pass(1);
        DUE.is("41: once more", x.whyNoPlay(0), 0);
        x.pass(1);
        DUE.is("41: too dear before enough", x.whyNoPlay(0), PrizePurses.TOO_DEAR);
        x.setPrice(1, 1);
        DUE.is("41: enough", x.whyNoPlay(0), PrizePurses.ENOUGH);
        DUE.is("37: two losses", x.moodOf(0), 44);
        x.pullDown(1);
        DUE.is("41: no stall before enough", x.whyNoPlay(0), PrizePurses.NO_STALL);
        x.build(0, PrizePurses.COCONUTS, 1, false);
        DUE.is("41: enough before sulking", x.whyNoPlay(0), PrizePurses.ENOUGH);
        x.pass(1);
        DUE.is("41: TEA, and none played here", x.whyNoPlay(0), 0);
        x.setPrice(0, 9);
        DUE.is("41: TEA too dear", x.whyNoPlay(0), PrizePurses.TOO_DEAR);
    }

    /** A mood of 60, then of 50, then of 46 at stalls of all kinds. */
    private static void sulkingByMood() {
        for (int kind = 0; kind < 5; kind++) {
            for (int favourite = 0; favourite < 5; favourite++) {
                PrizePurses x = Scene.quiet();
                x.come(9, favourite, 0);
                x.build(5, kind, 9, false);
                Scene.rain(x, 4);
                x.pass(5);
                DUE.is("37: mood", x.moodOf(0), 50);
                DUE.is("43: 50 is no sulker", x.sulkers(), 0);
                DUE.is("41: content", x.whyNoPlay(0), 0);
                x.pullDown(0);
                x.build(6, kind, 9, false);
                x.setRain(1, 3);
                x.pass(1);
                DUE.is("37: half of 3 is 1", x.moodOf(0), 49);
                DUE.is("43: 49 is", x.sulkers(), 1);
                boolean likes = kind == favourite || kind == PrizePurses.TEA;
                DUE.is("41: " + favourite + " at " + kind, x.whyNoPlay(0), likes ? 0 : PrizePurses.SULKING);
                DUE.is("11: plays", x.pass(1), likes ? 1 : 0);
            }
        }
    }

    private static void happiestAndSulkers() {
        PrizePurses x = Scene.quiet();
        DUE.is("42: nobody", x.happiest(), PrizePurses.NONE);
        for (int i = 0; i < 4; i++) {
            x.come(9, 4, 0);
        }
        DUE.is("42: the least number of four", x.happiest(), 0);
        x.build(0, PrizePurses.TEA, 9, false);
        x.turnStall(0);
        x.pass(1);
        x.come(0, 4, 0);
        x.come(9, 4, 0);
        x.turnStall(0);
        x.pass(1);
        DUE.is("37: the one who had tea", x.moodOf(5), 75);
        DUE.is("42: the greatest mood", x.happiest(), 5);
        DUE.is("43: none", x.sulkers(), 0);
        PrizePurses y = Scene.quiet();
        y.come(9, 0, 0);
        y.build(0, PrizePurses.HOOPLA, 4, false);
        y.pass(2);
        DUE.is("37: two losses", y.moodOf(0), 44);
        y.come(9, 0, 0);
        DUE.is("43: one of two", y.sulkers(), 1);
        DUE.is("42: the other", y.happiest(), 1);
    }

    private static void crowds() {
        PrizePurses x = Scene.quiet();
        x.come(0, 0, 0);
        x.come(0, 0, 0);
        x.pass(3);
        x.come(0, 0, 0);
        DUE.is("44: pitch 3", x.crowdOn(3), 2);
        DUE.is("44: pitch 0", x.crowdOn(0), 1);
        DUE.is("44: pitch 11", x.crowdOn(11), 0);
        x.pass(19);
        DUE.is("44: pitch 0 again", x.crowdOn(0), 2);
        x.pass(1);
        DUE.is("44: pitch 0 left", x.crowdOn(0), 0);
        DUE.is("34: with four by themselves", x.atFair(), x.children() - 2);
        for (int wrong : new int[] {-1, 12, Integer.MIN_VALUE, Integer.MAX_VALUE}) {
            DUE.noIndex(x, "44: pitch " + wrong, () -> x.crowdOn(wrong));
        }
    }

    private static void questionsAboutNoChild() {
        for (int wrong : new int[] {-1, 1, 200, Integer.MIN_VALUE, Integer.MAX_VALUE}) {
            PrizePurses x = Scene.quiet();
            x.come(1, 0, 0);
            DUE.noIndex(x, "35: child " + wrong, () -> x.isAtFair(wrong) ? 1 : 0);
            DUE.noIndex(x, "36: child " + wrong, () -> x.purseOf(wrong));
            DUE.noIndex(x, "37: child " + wrong, () -> x.moodOf(wrong));
            DUE.noIndex(x, "38: child " + wrong, () -> x.placeOf(wrong));
            DUE.noIndex(x, "39: child " + wrong, () -> x.isHomeward(wrong) ? 1 : 0);
            DUE.noIndex(x, "40: child " + wrong, () -> x.prizesOf(wrong));
            DUE.noIndex(x, "41: child " + wrong, () -> x.whyNoPlay(wrong));
            DUE.noIndex(x, "57: child " + wrong, () -> x.homeIn(wrong));
        }
    }
}
