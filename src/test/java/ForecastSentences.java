/** What the document says of forecasts: the promises 56 to 58. */
final class ForecastSentences {
    private static final int TEA = PrizePurses.TEA;
    private static final int DIP = PrizePurses.DIP;
    private static final int HOOPLA = PrizePurses.HOOPLA;
    private static final Class<IndexOutOfBoundsException> INDEX = IndexOutOfBoundsException.class;
    private static final Class<IllegalArgumentException> ARGUMENT = IllegalArgumentException.class;

    private ForecastSentences() {
    }

    static void tell(Sentences s) {
        takingsToday(s);
        homeIn(s);
        bestPitch(s);
        argumentsOfBestPitch(s);
    }

    /** In round 1, one child at the gate; none comes by itself, and TEA is what keeps up its mood. */
    private static PrizePurses alone(int purse, int kind) {
        PrizePurses x = Scene.quiet();
        for (int hour = 2; hour < 10; hour++) {
            x.setRain(hour, 5);
        }
        x.come(purse, kind, 0);
        return x;
    }

    /**
     * A child on pitch 6 who loves DIP, with 36 coins and a mood of 48, in a rain that takes 2 a round. At a
     * DIP without roof and prizes its mood lasts for four plays on 9 and 10, for three on 6 to 8.
     */
    private static PrizePurses wet() {
        PrizePurses x = Scene.rainy();
        x.come(36, DIP, 0);
        x.pass(6);
        return x;
    }

    private static void takingsToday(Sentences s) {
        s.chapter("Promise 56");
        s.holds("Returns the coins that children will spend until the day ends, if rounds just pass.", due -> {
            due.is("nobody can spend", new PrizePurses().takingsToday(), 0);
            PrizePurses x = alone(20, TEA);
            x.build(3, TEA, 2, false);
            due.is("four plays", x.takingsToday(), 8);
            x.pass(4);
            due.is("three of them are to come", x.takingsToday(), 6);
            due.is("takings", x.takings(), 2);
            x.turnStall(0);
            due.is("none at a closed stall", x.takingsToday(), 0);
            PrizePurses y = new PrizePurses();
            y.build(2, TEA, 1, false);
            y.build(7, DIP, 2, false);
            int today = y.takingsToday();
            due.is("those who come by themselves will, too", today > 0, true);
            y.pass(40);
            due.is("as it was foretold", y.takings(), today);
            PrizePurses z = Scene.rainy();
            z.build(0, TEA, 5, false);
            z.pass(39);
            due.is("nobody in the last round", z.takingsToday(), 0);
            z.come(50, 0, 0);
            due.is("one in the last round, and no more on the next day", z.takingsToday(), 5);
            z.pass(1);
            due.is("a new day", z.takingsToday(), 0);
            due.is("nothing changes by asking", z.recordedStates(), 4);
        });
    }

    private static void homeIn(Sentences s) {
        s.chapter("Promise 57");
        s.holds("Finds out in how many rounds a child has gone home, if rounds just pass.", due -> {
            PrizePurses x = Scene.quiet();
            x.come(20, TEA, 0);
            due.is("23 on its way", x.homeIn(0), 23);
            x.build(3, TEA, 2, false);
            due.is("27 with two plays on the way out and two on the way home", x.homeIn(0), 27);
            x.turnStall(0);
            due.is("none at a closed one", x.homeIn(0), 23);
            PrizePurses y = Scene.rain(new PrizePurses(), 9);
            y.come(20, TEA, 0);
            due.is("15 by its mood", y.homeIn(0), 15);
            PrizePurses z = Scene.rainy();
            z.pass(30);
            z.come(20, TEA, 0);
            due.is("10 by the end of the day", z.homeIn(0), 10);
        });
        s.child((x, child) -> x.homeIn(child));
        s.holds("Returns the number of rounds,", due -> {
            PrizePurses x = Scene.quiet();
            x.come(0, 0, 0);
            for (int rounds = 23; rounds >= 1; rounds--) {
                due.is("rounds", x.homeIn(0), rounds);
                due.is("at the fair", x.isAtFair(0), true);
                x.pass(1);
            }
            due.is("at the fair", x.isAtFair(0), false);
            PrizePurses y = Scene.rainy();
            y.pass(39);
            y.come(0, 0, 0);
            due.is("the last round of the day", y.homeIn(0), 1);
        });
        s.holds("0 if it has.", due -> {
            PrizePurses x = Scene.quiet();
            x.come(0, 0, 0);
            x.pass(23);
            due.is("through the gate", x.homeIn(0), 0);
            PrizePurses y = Scene.rain(new PrizePurses(), 9);
            y.come(0, 0, 0);
            y.pass(15);
            due.is("for its mood", y.homeIn(0), 0);
            PrizePurses z = Scene.rainy();
            z.pass(39);
            z.come(0, 0, 0);
            z.pass(1);
            due.is("at the end of the day", z.homeIn(0), 0);
        });
        s.noChild((x, child) -> x.homeIn(child));
    }

    private static void bestPitch(Sentences s) {
        s.chapter("Promise 58");
        s.holds("Finds the pitch at which a new stall would take most coins until the day ends,", due -> {
            PrizePurses x = alone(20, TEA);
            x.pass(6);
            due.is("four plays from 6 on, two before it", x.bestPitch(TEA, 2), 6);
            x.pass(3);
            due.is("four plays from 9 on", x.bestPitch(TEA, 2), 9);
            x.pass(3);
            due.is("two plays on its way home", x.bestPitch(TEA, 2), 0);
            for (int price = 1; price <= 9; price++) {
                foretold(due, price);
            }
        });
        s.holds("if it was open,", due -> {
            PrizePurses x = alone(20, TEA);
            x.pass(6);
            x.build(6, TEA, 2, false);
            x.turnStall(0);
            due.is("four plays at a new one on 7, though the one on 6 is closed", x.bestPitch(TEA, 2), 7);
        });
        s.holds("without a roof", due -> {
            due.is("pitch", wet().bestPitch(DIP, 9), 9);
            for (boolean roof : new boolean[] {false, true}) {
                PrizePurses x = wet();
                x.build(6, DIP, 9, roof);
                due.is("takings on 6", x.takingsToday(), roof ? 36 : 27);
            }
            PrizePurses y = wet();
            y.build(9, DIP, 9, false);
            due.is("takings on 9", y.takingsToday(), 36);
        });
        s.holds("and without prizes,", due -> {
            due.is("pitch", wet().bestPitch(DIP, 9), 9);
            PrizePurses x = wet();
            x.build(6, DIP, 9, false);
            due.is("takings on 6", x.takingsToday(), 27);
            x.fund(0, 4);
            x.restock(0, 0, 1, 4);
            due.is("with prizes", x.takingsToday(), 36);
        });
        s.holds("and rounds just passed:", due -> {
            PrizePurses x = alone(20, TEA);
            String before = Answers.of(x);
            x.bestPitch(TEA, 9);
            due.is("nothing changes by asking", Answers.of(x), before);
            PrizePurses y = Scene.rainy();
            y.pass(39);
            y.come(50, TEA, 0);
            due.is("one round is left, for the gate alone", y.bestPitch(TEA, 9), 0);
            y.build(0, TEA, 9, false);
            due.is("and none for another", y.bestPitch(TEA, 9), 1);
        });
        s.holds("of several the least one.", due -> {
            due.is("nobody can pay", Scene.rainy().bestPitch(TEA, 1), 0);
            PrizePurses x = Scene.rainy();
            x.build(0, TEA, 1, false);
            x.build(1, TEA, 1, false);
            x.build(3, TEA, 1, false);
            due.is("the least free one", x.bestPitch(TEA, 1), 2);
            PrizePurses y = alone(4, TEA);
            y.pass(5);
            due.is("two plays at each of 0 to 11: all its coins", y.bestPitch(TEA, 2), 0);
            due.is("one play at each", y.bestPitch(TEA, 3), 0);
        });
        s.holds("(Whether the bank has the coins,", due -> {
            PrizePurses x = Scene.rain(Scene.withBank(0), 5);
            x.come(50, TEA, 0);
            x.pass(2);
            due.is("pitch", x.bestPitch(TEA, 9), 2);
            due.is("it costs nothing", x.bank(), 0);
        });
        s.holds("and how many stalls there are, does not matter.)", due -> {
            PrizePurses x = Scene.sixStalls();
            Scene.rain(x, 5);
            for (int stall = 0; stall < 6; stall++) {
                x.turnStall(stall);
            }
            x.come(50, TEA, 0);
            x.pass(8);
            due.is("pitch", x.bestPitch(TEA, 9), 8);
            due.is("stalls", x.stalls(), 6);
        });
    }

    /** What a fair takes with a stall on the best pitch, against each other pitch, told by building there. */
    private static void foretold(Due due, int price) {
        int best = -1;
        int most = -1;
        for (int pitch = 0; pitch < 12; pitch++) {
            PrizePurses x = crowded();
            if (x.stallOn(pitch) >= 0) {
                continue;
            }
            x.build(pitch, HOOPLA, price, false);
            int stall = x.stallOn(pitch);
            x.pass(40 - x.round());
            if (x.playsOf(stall) * price > most) {
                most = x.playsOf(stall) * price;
                best = pitch;
            }
        }
        due.is("for " + price, crowded().bestPitch(HOOPLA, price), best);
    }

    private static PrizePurses crowded() {
        PrizePurses x = new PrizePurses();
        x.build(4, TEA, 2, true);
        x.build(1, DIP, 1, false);
        x.come(30, HOOPLA, 0);
        x.come(9, DIP, 1);
        x.pass(9);
        x.come(50, HOOPLA, 2);
        return x;
    }

    private static void argumentsOfBestPitch(Sentences s) {
        s.takes("`kind`: HOOPLA to TEA", 0, 4, Scene::busy, (x, kind) -> x.bestPitch(kind, 1));
        s.takes("`price`: 1 to 9", 1, 9, Scene::busy, (x, price) -> x.bestPitch(0, price));
        s.holds("Returns the pitch;", due -> {
            for (int pitch = 0; pitch < 12; pitch++) {
                PrizePurses x = alone(50, TEA);
                for (int round = 0; round < pitch; round++) {
                    x.pass(1);
                }
                int want = x.bestPitch(TEA, 9);
                x.build(want, TEA, 9, false);
                due.is("pitch", want, pitch < 11 ? pitch : 0);
                due.is("plays", x.takingsToday(), pitch < 11 ? 36 : 18);
            }
        });
        // Of 12 pitches, six at most have stalls: there is always one without.
        s.holds("NONE if all pitches have stalls.", due -> {
            PrizePurses x = Scene.sixStalls();
            for (int kind = 0; kind < 5; kind++) {
                for (int price = 1; price <= 9; price++) {
                    int best = x.bestPitch(kind, price);
                    due.is("a free pitch", best >= 6 && best <= 11, true);
                }
            }
        });
        s.refuses("Throws `IndexOutOfBoundsException` if there is no such kind", INDEX, Scene::busy,
                (x, kind) -> x.bestPitch(kind, 1), -1, 5);
        s.refuses("Throws `IllegalArgumentException` if price is out of range", ARGUMENT, Scene::busy,
                (x, price) -> x.bestPitch(0, price), 0, 10, -1);
    }
}
