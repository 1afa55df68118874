/** Fairs to begin a test with. */
final class Scene {
    private Scene() {
    }

    /**
     * Day 0, round 1, without children; no child comes by itself before round 8, and no mood is lost
     * before it: the hour 1 has a rain of 1. Three actions and one pass are behind it.
     */
    static PrizePurses quiet() {
        PrizePurses x = new PrizePurses();
        x.setRain(0, 5);
        x.pass(1);
        x.setRain(0, 0);
        x.setRain(1, 1);
        return x;
    }

    /** The same rain in all hours. */
    static PrizePurses rain(PrizePurses x, int rain) {
        for (int hour = 0; hour < 10; hour++) {
            x.setRain(hour, rain);
        }
        return x;
    }

    /** A stall at the gate whose shelf holds the prizes, each a level times ten and a colour. */
    static PrizePurses stocked(int kind, int price, boolean roof, int... prizes) {
        PrizePurses x = quiet();
        x.build(0, kind, price, roof);
        for (int prize : prizes) {
            x.fund(0, 10);
            x.restock(0, prize / 10, prize % 10, 1);
        }
        x.collect(0);
        return x;
    }

    static PrizePurses typed(PrizePurses x, String text) {
        x.clearText();
        for (int i = 0; i < text.length(); i++) {
            x.type(text.charAt(i));
        }
        return x;
    }
}
