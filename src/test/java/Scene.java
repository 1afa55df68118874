/** Fairs to begin a test with. */
final class Scene {
    private Scene() {
    }

    /**
     * Day 0, round 1, without children; no child comes by itself before round 8, and no mood is lost
     * before it: the hour 1 has a rain of 1. Three actions and one pass are behind it.
     */
    static PrizePurses quiet() {
        PrizePurses x = new PrizePurses();
        x.setRain(0, 5);
        x.pass(1);
        x.setRain(0, 0);
        x.setRain(1, 1);
        return x;
    }

    /** The same rain in all hours. */
    static PrizePurses rain(PrizePurses x, int rain) {
        for (int hour = 0; hour < 10; hour++) {
            x.setRain(hour, rain);
        }
        return x;
    }

    /** A new fair with a rain of 5: no child comes by itself, and each loses a mood of 2 in a round. */
    static PrizePurses rainy() {
        return rain(new PrizePurses(), 5);
    }

    /** A stall at the gate whose shelf holds the prizes, each a level times ten and a colour. */
    static PrizePurses stocked(int kind, int price, boolean roof, int... prizes) {
        PrizePurses x = quiet();
        x.build(0, kind, price, roof);
        for (int prize : prizes) {
            x.fund(0, 10);
            x.restock(0, prize / 10, prize % 10, 1);
        }
        x.collect(0);
        return x;
    }

    static PrizePurses typed(PrizePurses x, String text) {
        x.clearText();
        for (int i = 0; i < text.length(); i++) {
            x.type(text.charAt(i));
        }
        return x;
    }

    /**
     * Round 3 of day 0 (a rain of 5), two recorded states, a valid text, a snapshot; on pitch 3 the
     * stall 0, DIP for 4 with 10 coins; on 7 the stall 1, HOOPLA for 2 with a roof, 8 coins and two
     * prizes of level 2 and colour 3; on 9 the stall 2, TEA for 3 with 30 coins, closed; three children:
     * 0 at pitch 2 with 20 coins, 1 at 2 with none, 2 at the gate with 7.
     */
    static PrizePurses busy() {
        PrizePurses x = new PrizePurses();
        x.setRain(0, 5);
        x.build(3, PrizePurses.DIP, 4, false);
        x.build(7, PrizePurses.HOOPLA, 2, true);
        x.build(9, PrizePurses.TEA, 3, false);
        x.fund(0, 10);
        x.fund(1, 20);
        x.fund(2, 30);
        x.restock(1, 2, 3, 2);
        x.turnStall(2);
        x.pass(1);
        x.come(20, PrizePurses.DIP, 1);
        x.come(0, PrizePurses.COCONUTS, 2);
        x.takeSnapshot();
        x.pass(2);
        x.come(7, PrizePurses.HOOPLA, 3);
        x.setRain(9, 3);
        x.setRain(9, 4);
        x.undo();
        x.undo();
        return typed(x, "p2;w3=0");
    }

    static PrizePurses busyWithTwoStalls() {
        PrizePurses x = busy();
        x.pullDown(0);
        return x;
    }

    /** Six stalls on the pitches 0 to 5, with 20 coins each. */
    static PrizePurses sixStalls() {
        PrizePurses x = new PrizePurses();
        for (int pitch = 0; pitch < 6; pitch++) {
            x.build(pitch, pitch % 5, 1, false);
            x.fund(pitch, 20);
        }
        return x;
    }

    static PrizePurses fiveStalls() {
        PrizePurses x = sixStalls();
        x.pullDown(5);
        return x;
    }

    /** A stall on pitch 5 and so many coins in the bank, 470 at most. */
    static PrizePurses withBank(int coins) {
        PrizePurses x = new PrizePurses();
        x.build(5, PrizePurses.TEA, 1, false);
        while (x.bank() > coins) {
            x.fund(0, Math.min(99, x.bank() - coins));
        }
        return x;
    }

    /** Forty children at the fair, in round 0 of a day without rain. */
    static PrizePurses forty() {
        PrizePurses x = new PrizePurses();
        for (int child = 0; child < 40; child++) {
            x.come(child, child % 5, child % 4);
        }
        return x;
    }

    /** The day 4, round 0, of rainy days; 160 children have gone home, and more have come to the gate. */
    static PrizePurses manyChildren(int children) {
        PrizePurses x = rainy();
        for (int child = 0; child < children; child++) {
            if (child % 40 == 0 && child > 0) {
                x.pass(40);
            }
            x.come(child % 100, child % 5, child % 4);
        }
        return x;
    }

    static PrizePurses twoHundred() {
        return manyChildren(200);
    }
}
