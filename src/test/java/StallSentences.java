/** What the document says of stalls and prizes: terms, and the promises 1 to 8 and 20 to 31. */
final class StallSentences {
    private static final int NONE = PrizePurses.NONE;
    private static final int[] WINS_EACH = {4, 3, 5, 1};
    private static final int[] MOST_LEVEL = {2, 1, 3, 0};
    private static final Class<IndexOutOfBoundsException> INDEX = IndexOutOfBoundsException.class;
    private static final Class<IllegalArgumentException> ARGUMENT = IllegalArgumentException.class;

    private StallSentences() {
    }

    static void tell(Sentences s) {
        divisions(s);
        pitches(s);
        numbers(s);
        aStall(s);
        whatAStallCosts(s);
        whenPulledDown(s);
        kinds(s);
        prizes(s);
        aNewObject(s);
        build(s);
        pullDown(s);
        setPrice(s);
        turnStall(s);
        restock(s);
        fund(s);
        collect(s);
        questions(s);
        moreQuestions(s);
        questionsOfWinning(s);
        questionsOfPrizes(s);
    }

    private static void divisions(Sentences s) {
        s.chapter("Terms");
        s.holds("All divisions are rounded down.", due -> {
            int[] halves = {0, 0, 1, 1, 2, 2, 3, 3, 4, 4};
            for (int rain = 0; rain < 10; rain++) {
                PrizePurses x = Scene.quiet();
                x.come(0, 0, 0);
                x.setRain(0, rain);
                x.pass(1);
                due.is("half of the rain " + rain, 60 - x.moodOf(0), halves[rain]);
            }
            PrizePurses x = new PrizePurses();
            x.build(11, PrizePurses.TEA, 1, false);
            x.build(9, PrizePurses.TEA, 1, false);
            due.is("2 plus half of 1", x.rentOf(0), 2);
            due.is("2 plus half of 3", x.rentOf(1), 3);
        });
    }

    private static void pitches(Sentences s) {
        s.chapter("PITCHES AND STALLS");
        s.holds("There are 12 pitches, 0 to 11, along a path;", due -> {
            for (int pitch = 0; pitch < 12; pitch++) {
                PrizePurses x = new PrizePurses();
                due.is("nobody on it", x.crowdOn(pitch), 0);
                due.is("build", x.build(pitch, PrizePurses.TEA, 1, false), 0);
                due.is("pitchOf", x.pitchOf(0), pitch);
            }
            for (int none : new int[] {-1, 12}) {
                due.noIndex("build on " + none, PrizePurses::new, x -> x.build(none, 0, 1, false));
                due.noIndex("stallOn " + none, PrizePurses::new, x -> x.stallOn(none));
                due.noIndex("crowdOn " + none, PrizePurses::new, x -> x.crowdOn(none));
            }
        });
        s.holds("the gate is beside the pitch 0.", due -> {
            PrizePurses x = Scene.quiet();
            x.come(0, 0, 0);
            due.is("who comes in by it", x.placeOf(0), 0);
            x.pass(22);
            due.is("who comes back to it", x.placeOf(0), 0);
            x.pass(1);
            due.is("who goes out by it", x.isAtFair(0), false);
        });
        s.holds("On a pitch is at most one stall.", due -> {
            due.noState("a second one", Scene::busy, x -> x.build(3, 0, 1, false));
            due.noState("a second one beside a closed one", Scene::busy, x -> x.build(9, 0, 1, false));
            due.noState("a second one on the first pitch", Scene::fiveStalls, x -> x.build(0, 0, 1, false));
            due.noState("a second one on the last built", Scene::fiveStalls, x -> x.build(4, 0, 1, false));
            PrizePurses x = Scene.busy();
            x.pullDown(0);
            due.is("one after the other", x.build(3, 0, 1, false), 2);
        });
    }

    private static void numbers(Sentences s) {
        s.holds("Up to 6 stalls", due -> {
            PrizePurses x = new PrizePurses();
            for (int stall = 0; stall < 6; stall++) {
                due.is("build", x.build(11 - stall, 0, 1, false), stall);
                due.is("stalls", x.stalls(), stall + 1);
            }
            due.noState("the seventh", Scene::sixStalls, y -> y.build(11, 0, 1, false));
            x.pullDown(2);
            due.is("the sixth again", x.build(11 - 2, 0, 1, false), 5);
        });
        s.holds("are numbered from 0 in the order in which they were built.", due -> {
            PrizePurses x = new PrizePurses();
            int[] pitches = {5, 11, 0, 7, 2, 1};
            for (int stall = 0; stall < 6; stall++) {
                due.is("build", x.build(pitches[stall], 0, 1, false), stall);
            }
            for (int stall = 0; stall < 6; stall++) {
                due.is("stallOn", x.stallOn(pitches[stall]), stall);
                due.is("pitchOf", x.pitchOf(stall), pitches[stall]);
            }
        });
    }

    private static void aStall(Sentences s) {
        s.holds("A stall has a kind,", due -> {
            int[] first = {4, 3, 5, 1, NONE};
            for (int kind = 0; kind < 5; kind++) {
                PrizePurses x = new PrizePurses();
                x.build(0, kind, 1, false);
                due.is("plays to win at kind " + kind, x.playsToWin(0), first[kind]);
            }
        });
        s.holds("a price of 1 to 9 coins,", due -> {
            for (int price = 1; price <= 9; price++) {
                PrizePurses x = new PrizePurses();
                x.build(0, 0, price, false);
                due.is("priceOf", x.priceOf(0), price);
            }
            for (int price : new int[] {0, 10}) {
                due.noArgument("build for " + price, Scene::busy, x -> x.build(0, 0, price, false));
                due.noArgument("setPrice " + price, Scene::busy, x -> x.setPrice(0, price));
            }
        });
        s.holds("a roof or none,", due -> {
            for (boolean roof : new boolean[] {true, false}) {
                PrizePurses x = Scene.rainy();
                x.build(0, PrizePurses.TEA, 9, roof);
                x.come(0, 0, 0);
                x.pass(1);
                due.is("mood of who stands there in the rain", x.moodOf(0), roof ? 60 : 58);
            }
            PrizePurses y = Scene.rain(afterAnother(), 5);
            y.come(0, 0, 0);
            y.pass(3);
            due.is("none, where the one before had one", y.moodOf(1), 54);
        });
        s.holds("a purse (0 coins at first),", due -> {
            PrizePurses x = new PrizePurses();
            x.build(0, 0, 9, true);
            due.is("purse at first", x.purseOfStall(0), 0);
            due.is("nothing to collect", x.collect(0), 0);
            x.fund(0, 7);
            due.is("purse", x.purseOfStall(0), 7);
            x.build(1, 0, 9, true);
            due.is("purse of the next", x.purseOfStall(1), 0);
            due.is("purse after another", afterAnother().purseOfStall(1), 0);
        });
        s.holds("a shelf,", due -> {
            PrizePurses x = new PrizePurses();
            x.build(0, 0, 1, false);
            x.build(1, 0, 1, false);
            due.is("shelf at first", x.shelfOf(0), 0);
            x.fund(0, 2);
            x.restock(0, 0, 1, 2);
            due.is("shelf", x.shelfOf(0), 2);
            due.is("shelf of the other", x.shelfOf(1), 0);
            PrizePurses y = afterAnother();
            for (int i = 0; i < 16; i++) {
                due.is("prizes of another", y.prizesOn(0, i / 4, i % 4), 1);
                due.is("prizes after another", y.prizesOn(1, i / 4, i % 4), 0);
            }
        });
        s.holds("and a number of plays (0 at first);", due -> {
            PrizePurses x = Scene.quiet();
            x.build(0, 0, 1, false);
            due.is("plays at first", x.playsOf(0), 0);
            x.come(1, 0, 0);
            x.pass(1);
            due.is("plays", x.playsOf(0), 1);
            x.build(1, 0, 1, false);
            due.is("plays of the next", x.playsOf(1), 0);
            due.is("plays of another", afterAnother().playsOf(0), 1);
            due.is("plays after another", afterAnother().playsOf(1), 0);
        });
        s.holds("it is open or closed (open at first).", due -> {
            PrizePurses x = new PrizePurses();
            x.build(0, 0, 1, false);
            due.is("open at first", x.isOpen(0), true);
            x.turnStall(0);
            due.is("closed", x.isOpen(0), false);
            x.build(1, 0, 1, false);
            due.is("the next is open at first", x.isOpen(1), true);
            due.is("after a closed one, too", afterAnother().isOpen(1), true);
            x.turnStall(0);
            due.is("open", x.isOpen(0), true);
        });
    }

    /**
     * On pitch 2 the stall 1, DARTS without a roof. There was a stall 1 before that had a roof, coins, prizes
     * of all levels and colours and a play, and was closed; it has become the stall 0.
     */
    private static PrizePurses afterAnother() {
        PrizePurses x = Scene.quiet();
        x.build(1, PrizePurses.TEA, 9, true);
        x.build(0, PrizePurses.HOOPLA, 1, true);
        x.fund(1, 99);
        for (int i = 0; i < 16; i++) {
            x.restock(1, i / 4, i % 4, 1);
        }
        x.come(1, PrizePurses.HOOPLA, 0);
        x.pass(1);
        x.turnStall(1);
        x.pullDown(0);
        x.build(2, PrizePurses.DARTS, 4, false);
        return x;
    }

    private static void whatAStallCosts(Sentences s) {
        s.holds("To build a stall costs 30 coins of the bank,", due -> {
            PrizePurses x = new PrizePurses();
            x.build(0, 0, 9, false);
            due.is("bank", x.bank(), 470);
            PrizePurses y = Scene.withBank(30);
            due.is("with just 30", y.build(0, 0, 1, false), 1);
            due.is("bank", y.bank(), 0);
            due.noState("with 29", () -> Scene.withBank(29), z -> z.build(0, 0, 1, false));
            due.noState("with none", () -> Scene.withBank(0), z -> z.build(0, 0, 1, false));
        });
        s.holds("20 more with a roof.", due -> {
            PrizePurses x = new PrizePurses();
            x.build(0, 0, 9, true);
            due.is("bank", x.bank(), 450);
            PrizePurses y = Scene.withBank(50);
            due.is("with just 50", y.build(0, 0, 1, true), 1);
            due.is("bank", y.bank(), 0);
            due.noState("with 49", () -> Scene.withBank(49), z -> z.build(0, 0, 1, true));
        });
    }

    private static void whenPulledDown(Sentences s) {
        s.holds("When a stall is pulled down, the coins of its purse come to the bank,", due -> {
            PrizePurses x = Scene.busy();
            int bank = x.bank();
            due.is("coins", x.pullDown(1), 8);
            due.is("bank", x.bank(), bank + 8);
            due.is("all that is left of it", x.coinsByPlaces(), x.allCoins());
            PrizePurses y = new PrizePurses();
            y.build(0, 0, 1, false);
            due.is("an empty purse", y.pullDown(0), 0);
            due.is("bank", y.bank(), 470);
        });
        s.holds("its prizes are gone,", due -> {
            PrizePurses x = Scene.busy();
            x.pullDown(1);
            x.build(7, PrizePurses.HOOPLA, 2, true);
            due.is("shelf of a stall in its place", x.shelfOf(2), 0);
            due.is("shelf of the one that has its number", x.shelfOf(1), 0);
            due.is("they are not won", x.wonOf(2), 0);
        });
        s.holds("and stalls with greater numbers have numbers less by 1.", due -> {
            PrizePurses x = Scene.sixStalls();
            x.setPrice(3, 4);
            x.turnStall(4);
            x.restock(5, 0, 2, 3);
            x.pullDown(2);
            int[] pitches = {0, 1, 3, 4, 5};
            for (int stall = 0; stall < 5; stall++) {
                due.is("pitchOf " + stall, x.pitchOf(stall), pitches[stall]);
                due.is("priceOf " + stall, x.priceOf(stall), stall == 2 ? 4 : 1);
                due.is("isOpen " + stall, x.isOpen(stall), stall != 3);
                due.is("prizesOn " + stall, x.prizesOn(stall, 0, 2), stall == 4 ? 3 : 0);
                due.is("purseOfStall " + stall, x.purseOfStall(stall), stall == 4 ? 17 : 20);
            }
            due.is("stalls", x.stalls(), 5);
            due.is("no stall 5", Due.outcome(() -> x.pitchOf(5)), "IndexOutOfBoundsException");
            x.pullDown(4);
            due.is("the last one pulled down: 3", x.pitchOf(3), 4);
            x.pullDown(0);
            due.is("the first one pulled down: 0", x.pitchOf(0), 1);
            due.is("and 2", x.pitchOf(2), 4);
            PrizePurses y = Scene.sixStalls();
            for (int i = 0; i < 24; i++) {
                y.restock(i / 4, i % 4, 0, 1);
            }
            y.pullDown(0);
            int[] plays = {3, 5, 1, NONE, 4};
            int[] levels = {1, 3, 0, NONE, 2};
            for (int stall = 0; stall < 5; stall++) {
                due.is("plays until it wins at " + stall, y.playsToWin(stall), plays[stall]);
                due.is("what it wins", y.levelToWin(stall), levels[stall]);
            }
            PrizePurses z = Scene.rainy();
            z.build(1, PrizePurses.TEA, 9, false);
            z.build(0, PrizePurses.TEA, 9, true);
            z.pullDown(0);
            z.come(0, 0, 0);
            z.pass(1);
            due.is("mood below its roof", z.moodOf(0), 60);
        });
    }

    /** Each play by a child of its own, at a stall with 40 prizes of level 0. */
    private static void winsEach(Due due, int kind) {
        int each = WINS_EACH[kind];
        PrizePurses x = Scene.rainy();
        x.build(0, kind, 1, false);
        x.fund(0, 40);
        x.restock(0, 0, 0, 40);
        for (int play = 1; play <= 16; play++) {
            x.come(1, kind, 0);
            due.is("plays", x.pass(1), 1);
            due.is("won with play " + play, x.prizesOf(play - 1), play % each == 0 ? 1 : 0);
            due.is("left behind play " + play, x.shelfOf(0), 40 - play / each);
        }
    }

    private static void winsAtMost(Due due, int kind) {
        int most = MOST_LEVEL[kind];
        for (int level = 0; level < 4; level++) {
            PrizePurses x = withPlaysBefore(kind, level * 10 + 1);
            x.pass(1);
            due.is("won where only the level " + level + " is", x.wonOf(level), level <= most ? 1 : 0);
        }
        PrizePurses x = withPlaysBefore(kind, 1, 11, 21, 31);
        x.pass(1);
        for (int level = 0; level < 4; level++) {
            due.is("won of level " + level + " where all are", x.wonOf(level), level == most ? 1 : 0);
        }
    }

    /** A child stands at the gate, whose play would be the first one that wins. */
    private static PrizePurses withPlaysBefore(int kind, int... prizes) {
        PrizePurses x = Scene.stocked(kind, 1, false, prizes);
        for (int play = 1; play < WINS_EACH[kind]; play++) {
            x.come(1, kind, 0);
            x.pass(1);
        }
        x.come(1, kind, 0);
        return x;
    }

    private static void letter(Due due, int kind, int constant, String letter) {
        due.is("the constant", constant, kind);
        PrizePurses x = Scene.typed(new PrizePurses(), "b0" + letter + "1");
        due.is("carryOut", x.carryOut(), 1);
        PrizePurses y = new PrizePurses();
        y.build(0, kind, 1, false);
        due.is("the stall that is ordered", Answers.of(x).replaceAll("text .*? today", ""),
                Answers.of(y).replaceAll("text .*? today", ""));
    }

    private static void kinds(Sentences s) {
        s.holds("There are 5 kinds:", due -> {
            for (int kind = 0; kind < 5; kind++) {
                PrizePurses x = new PrizePurses();
                due.is("build kind " + kind, x.build(1, kind, 1, false), 0);
                due.is("come for kind " + kind, x.come(0, kind, 0), 0);
                int of = kind;
                due.taken("bestPitch of kind " + kind, () -> x.bestPitch(of, 1));
            }
            for (int none : new int[] {-1, 5}) {
                due.noIndex("build kind " + none, PrizePurses::new, x -> x.build(0, none, 1, false));
                due.noIndex("come for kind " + none, PrizePurses::new, x -> x.come(0, none, 0));
                due.noIndex("bestPitch of kind " + none, PrizePurses::new, x -> x.bestPitch(none, 1));
            }
        });
        s.holds("HOOPLA, written \"h\",", due -> letter(due, 0, PrizePurses.HOOPLA, "h"));
        s.holds("where each fourth play wins a prize", due -> winsEach(due, 0));
        s.holds("of a level of at most 2;", due -> winsAtMost(due, 0));
        s.holds("DARTS, \"d\",", due -> letter(due, 1, PrizePurses.DARTS, "d"));
        s.holds("each third play,", due -> winsEach(due, 1));
        s.holds("at most 1;", due -> winsAtMost(due, 1));
        s.holds("COCONUTS, \"c\",", due -> letter(due, 2, PrizePurses.COCONUTS, "c"));
        s.holds("each fifth play,", due -> winsEach(due, 2));
        s.holds("at most 3;", due -> winsAtMost(due, 2));
        s.holds("DIP, \"l\",", due -> letter(due, 3, PrizePurses.DIP, "l"));
        s.holds("each play,", due -> winsEach(due, 3));
        s.holds("the level 0;", due -> winsAtMost(due, 3));
        s.holds("TEA, \"t\",", due -> letter(due, 4, PrizePurses.TEA, "t"));
        s.holds("where nothing is won.", due -> {
            PrizePurses x = Scene.rainy();
            x.build(0, PrizePurses.TEA, 1, false);
            x.fund(0, 80);
            for (int level = 0; level < 4; level++) {
                x.restock(0, level, 0, 4);
            }
            for (int play = 1; play <= 12; play++) {
                x.come(1, 0, 0);
                due.is("plays", x.pass(1), 1);
                due.is("prizes that are left", x.shelfOf(0), 16);
                due.is("prizes of the child", x.prizesOf(play - 1), 0);
            }
        });
        s.holds("(Plays of a stall are counted from its building on;", due -> {
            PrizePurses x = withPlaysBefore(PrizePurses.HOOPLA, 0);
            x.pullDown(0);
            x.build(0, PrizePurses.HOOPLA, 1, false);
            due.is("plays of the next stall in its place", x.playsOf(0), 0);
            due.is("plays until it wins", x.playsToWin(0), 4);
            PrizePurses y = withPlaysBefore(PrizePurses.HOOPLA, 0);
            y.turnStall(0);
            y.turnStall(0);
            y.setPrice(0, 2);
            y.collect(0);
            y.setPrice(0, 1);
            y.pass(1);
            due.is("won with the fourth play, whatever came between", y.wonOf(0), 1);
            PrizePurses z = Scene.rainy();
            z.build(0, PrizePurses.HOOPLA, 1, false);
            z.fund(0, 99);
            z.restock(0, 0, 0, 1);
            for (int play = 1; play <= 3; play++) {
                z.come(1, 0, 0);
                z.pass(1);
            }
            z.pass(37);
            z.come(1, 0, 0);
            z.pass(1);
            due.is("won with the fourth play, on another day", z.wonOf(0), 1);
        });
        s.holds("the fourth, the eighth, and so on win.)", due -> {
            PrizePurses x = Scene.rainy();
            x.build(0, PrizePurses.HOOPLA, 1, false);
            x.fund(0, 40);
            x.restock(0, 0, 0, 40);
            for (int play = 1; play <= 20; play++) {
                x.come(1, 0, 0);
                x.pass(1);
                boolean wins = play == 4 || play == 8 || play == 12 || play == 16 || play == 20;
                due.is("won with play " + play, x.prizesOf(play - 1), wins ? 1 : 0);
            }
        });
    }

    private static void prizes(Sentences s) {
        s.chapter("PRIZES");
        s.holds("A prize has a level, 0 to 3,", due -> {
            for (int level = 0; level < 4; level++) {
                PrizePurses x = Scene.sixStalls();
                x.restock(0, level, 1, 1);
                for (int other = 0; other < 4; other++) {
                    due.is("prizesOn", x.prizesOn(0, other, 1), other == level ? 1 : 0);
                }
            }
            for (int none : new int[] {-1, 4}) {
                due.noIndex("restock " + none, Scene::sixStalls, x -> x.restock(0, none, 1, 1));
                due.noIndex("prizesOn " + none, Scene::sixStalls, x -> x.prizesOn(0, none, 1));
                due.noIndex("wonOf " + none, Scene::sixStalls, x -> x.wonOf(none));
            }
        });
        s.holds("and a colour, 0 to 3.", due -> {
            for (int colour = 0; colour < 4; colour++) {
                PrizePurses x = Scene.sixStalls();
                x.restock(0, 1, colour, 1);
                for (int other = 0; other < 4; other++) {
                    due.is("prizesOn", x.prizesOn(0, 1, other), other == colour ? 1 : 0);
                }
            }
            for (int none : new int[] {-1, 4}) {
                due.noIndex("restock " + none, Scene::sixStalls, x -> x.restock(0, 1, none, 1));
                due.noIndex("prizesOn " + none, Scene::sixStalls, x -> x.prizesOn(0, 1, none));
                due.noIndex("come for " + none, Scene::sixStalls, x -> x.come(1, 1, none));
            }
        });
        s.holds("A shelf has at most 40 prizes.", due -> {
            PrizePurses x = withShelf(39);
            due.is("the 40th", x.restock(0, 1, 3, 1), 180 - 39 - 3);
            due.is("shelfOf", x.shelfOf(0), 40);
            due.noState("the 41st of its level and colour", () -> withShelf(40), y -> y.restock(0, 0, 0, 1));
            due.noState("the 41st, of others", () -> withShelf(40), y -> y.restock(0, 3, 3, 1));
            due.noState("two for one place", () -> withShelf(39), y -> y.restock(0, 0, 3, 2));
            due.noState("40 more", () -> withShelf(1), y -> y.restock(0, 0, 3, 40));
            PrizePurses z = withShelf(0);
            due.is("40 at once", z.restock(0, 1, 1, 40), 60);
            z.fund(1, 1);
            due.is("another shelf has room", z.restock(1, 0, 0, 1), 0);
        });
        s.holds("A prize costs 1, 3, 6 or 10 coins by its level 0, 1, 2 or 3;", due -> {
            int[] costs = {1, 3, 6, 10};
            for (int level = 0; level < 4; level++) {
                int of = level;
                int cost = costs[level];
                due.is("one", withPurse(cost).restock(0, level, 2, 1), 0);
                due.is("nine", withPurse(9 * cost + 3).restock(0, level, 2, 9), 3);
                due.noState("one coin too few for nine of " + level, () -> withPurse(9 * cost - 1),
                        x -> x.restock(0, of, 2, 9));
                due.noState("one coin too few for one of " + level, () -> withPurse(cost - 1),
                        x -> x.restock(0, of, 2, 1));
            }
        });
        s.holds("the stall pays for it out of its purse.", due -> {
            PrizePurses x = withPurse(20);
            int bank = x.bank();
            due.is("what is left", x.restock(0, 2, 0, 3), 2);
            due.is("its purse", x.purseOfStall(0), 2);
            due.is("the bank", x.bank(), bank);
            due.is("the town", x.town(), 0);
            due.is("spent for prizes", x.coinsByPlaces(), 500);
            due.noState("the bank's coins do not help", () -> withPurse(2), y -> y.restock(0, 1, 0, 1));
        });
    }

    /** Two stalls; the first has 180 coins, less what so many prizes of level 0 and colour 0 cost. */
    private static PrizePurses withShelf(int prizes) {
        PrizePurses x = new PrizePurses();
        x.build(0, PrizePurses.TEA, 1, false);
        x.build(1, PrizePurses.TEA, 1, false);
        x.fund(0, 90);
        x.fund(0, 90);
        if (prizes > 0) {
            x.restock(0, 0, 0, prizes);
        }
        return x;
    }

    private static PrizePurses withPurse(int coins) {
        PrizePurses x = new PrizePurses();
        x.build(0, PrizePurses.HOOPLA, 1, false);
        if (coins > 0) {
            x.fund(0, coins);
        }
        return x;
    }

    private static void aNewObject(Sentences s) {
        s.chapter("Promise 1");
        s.holds("Creates an empty fairground", due -> {
            PrizePurses x = new PrizePurses();
            due.is("stalls", x.stalls(), 0);
            due.is("children", x.children(), 0);
            due.is("at the fair", x.atFair(), 0);
            due.is("town", x.town(), 0);
            due.is("takings", x.takings(), 0);
            due.is("takings by children", x.takingsByChildren(), 0);
            due.is("plays", x.plays(), 0);
            due.is("recorded states", x.recordedStates(), 0);
            due.is("length of the text", x.clearText(), 0);
            for (int level = 0; level < 4; level++) {
                due.is("won", x.wonOf(level), 0);
            }
            for (int pitch = 0; pitch < 12; pitch++) {
                due.is("stall on " + pitch, x.stallOn(pitch), NONE);
            }
            new PrizePurses().build(0, 0, 1, false);
            due.is("whatever others do", x.stalls(), 0);
        });
        s.holds("with 500 coins in the bank,", due -> {
            PrizePurses x = new PrizePurses();
            due.is("bank", x.bank(), 500);
            due.is("all coins", x.allCoins(), 500);
            due.is("coins by places", x.coinsByPlaces(), 500);
        });
        s.holds("on day 0,", due -> due.is("day", new PrizePurses().day(), 0));
        s.holds("round 0.", due -> due.is("round", new PrizePurses().round(), 0));
    }

    private static void build(Sentences s) {
        s.chapter("Promise 2");
        s.holds("Builds a stall.", due -> {
            PrizePurses x = new PrizePurses();
            x.build(4, PrizePurses.DARTS, 6, true);
            due.is("stalls", x.stalls(), 1);
            due.is("pitch", x.pitchOf(0), 4);
            due.is("kind", x.playsToWin(0), 3);
            due.is("price", x.priceOf(0), 6);
            due.is("open", x.isOpen(0), true);
            due.is("bank", x.bank(), 450);
        });
        s.action(x -> x.build(11, PrizePurses.COCONUTS, 9, true));
        s.takes("`pitch`: 0 to 11", 0, 11, PrizePurses::new, (x, pitch) -> x.build(pitch, 0, 1, false));
        s.takes("`kind`: HOOPLA to TEA", 0, 4, Scene::busy, (x, kind) -> x.build(0, kind, 1, false));
        s.takes("`price`: 1 to 9", 1, 9, Scene::busy, (x, price) -> x.build(0, 0, price, true));
        s.holds("`hasRoof`: whether it has a roof", due -> {
            for (boolean roof : new boolean[] {false, true}) {
                PrizePurses x = Scene.rainy();
                x.build(0, 0, 9, roof);
                x.come(0, 0, 0);
                x.pass(1);
                due.is("mood below it", x.moodOf(0), roof ? 60 : 58);
            }
        });
        s.holds("Returns the number of the stall.", due -> {
            PrizePurses x = new PrizePurses();
            for (int stall = 0; stall < 6; stall++) {
                due.is("number", x.build(2 * stall + 1, 0, 1, false), stall);
            }
            x.pullDown(0);
            due.is("number", x.build(0, 0, 1, false), 5);
        });
        s.holds("Throws `IndexOutOfBoundsException` if there is no such pitch or kind", due -> {
            Sentences.refuses(due, "pitch ", INDEX, Scene::busy, (x, pitch) -> x.build(pitch, 0, 1, false), -1, 12);
            Sentences.refuses(due, "kind ", INDEX, Scene::busy, (x, kind) -> x.build(0, kind, 1, false), -1, 5);
        });
        s.refuses("Throws `IllegalArgumentException` if price is out of range", ARGUMENT, Scene::busy,
                (x, price) -> x.build(0, 0, price, false), 0, 10, -1);
        s.holds("Throws `IllegalStateException` if there is a stall on the pitch,", due -> {
            due.noState("an open one", Scene::busy, x -> x.build(3, 0, 1, false));
            due.noState("a closed one", Scene::busy, x -> x.build(9, 0, 1, false));
            PrizePurses x = Scene.busy();
            due.is("a free one", x.build(4, 0, 1, false), 3);
        });
        s.holds("there are 6,", due -> {
            due.noState("the seventh", Scene::sixStalls, x -> x.build(6, 0, 1, false));
            PrizePurses x = Scene.sixStalls();
            x.pullDown(5);
            due.is("the sixth", x.build(6, 0, 1, false), 5);
        });
        s.holds("or the bank does not have the coins", due -> {
            due.noState("29 coins", () -> Scene.withBank(29), x -> x.build(0, 0, 1, false));
            due.noState("49 coins", () -> Scene.withBank(49), x -> x.build(0, 0, 1, true));
            due.is("30 coins", Scene.withBank(30).build(0, 0, 1, false), 1);
            due.is("49 coins, no roof", Scene.withBank(49).build(0, 0, 1, false), 1);
            due.is("50 coins", Scene.withBank(50).build(0, 0, 1, true), 1);
        });
    }

    private static void pullDown(Sentences s) {
        s.chapter("Promise 3");
        s.holds("Pulls a stall down.", due -> {
            PrizePurses x = Scene.busy();
            x.pullDown(1);
            due.is("stalls", x.stalls(), 2);
            due.is("stall on its pitch", x.stallOn(7), NONE);
            due.is("stall on another", x.stallOn(3), 0);
            due.is("stall on another", x.stallOn(9), 1);
        });
        s.action(x -> x.pullDown(1));
        s.stall((x, stall) -> x.pullDown(stall));
        s.holds("Returns the coins that come to the bank.", due -> {
            int[] purses = {10, 8, 30};
            for (int stall = 0; stall < 3; stall++) {
                PrizePurses x = Scene.busy();
                int bank = x.bank();
                due.is("coins of " + stall, x.pullDown(stall), purses[stall]);
                due.is("bank", x.bank(), bank + purses[stall]);
            }
        });
        s.noStall((x, stall) -> x.pullDown(stall));
    }

    private static void setPrice(Sentences s) {
        s.chapter("Promise 4");
        s.holds("Changes the price of a stall.", due -> {
            PrizePurses x = Scene.busy();
            x.setPrice(1, 7);
            due.is("price", x.priceOf(1), 7);
            due.is("price of another", x.priceOf(0), 4);
            due.is("price of another", x.priceOf(2), 3);
            PrizePurses y = Scene.quiet();
            y.build(0, PrizePurses.TEA, 1, false);
            y.setPrice(0, 3);
            y.come(5, 0, 0);
            y.pass(1);
            due.is("what is paid", y.takings(), 3);
        });
        s.action(x -> x.setPrice(0, 4));
        s.stall((x, stall) -> x.setPrice(stall, 9));
        s.takes("`price`: 1 to 9", 1, 9, Scene::busy, (x, price) -> x.setPrice(2, price));
        s.holds("Returns the previous price.", due -> {
            PrizePurses x = Scene.busy();
            due.is("first", x.setPrice(0, 9), 4);
            due.is("then", x.setPrice(0, 1), 9);
            due.is("then", x.setPrice(0, 1), 1);
            due.is("of another", x.setPrice(2, 1), 3);
        });
        s.noStall((x, stall) -> x.setPrice(stall, 1));
        s.refuses("Throws `IllegalArgumentException` if price is out of range", ARGUMENT, Scene::busy,
                (x, price) -> x.setPrice(0, price), 0, 10, -1);
    }

    private static void turnStall(Sentences s) {
        s.chapter("Promise 5");
        s.holds("Opens a stall that is closed,", due -> {
            PrizePurses x = Scene.busy();
            x.turnStall(2);
            due.is("open", x.isOpen(2), true);
            due.is("others", x.isOpen(0) && x.isOpen(1), true);
        });
        s.holds("or closes one that is open.", due -> {
            PrizePurses x = Scene.busy();
            x.turnStall(0);
            due.is("open", x.isOpen(0), false);
            due.is("another", x.isOpen(1), true);
            due.is("another", x.isOpen(2), false);
        });
        s.action(x -> x.turnStall(2) ? 1 : 0);
        s.stall((x, stall) -> x.turnStall(stall) ? 1 : 0);
        s.holds("Returns whether it is open afterwards.", due -> {
            PrizePurses x = Scene.busy();
            due.is("closed", x.turnStall(1), false);
            due.is("open", x.turnStall(1), true);
            due.is("the one that was closed", x.turnStall(2), true);
        });
        s.noStall((x, stall) -> x.turnStall(stall) ? 1 : 0);
    }

    private static void restock(Sentences s) {
        s.chapter("Promise 6");
        s.holds("Puts prizes on the shelf of a stall.", due -> {
            PrizePurses x = Scene.busy();
            x.restock(1, 1, 0, 2);
            due.is("prizes", x.prizesOn(1, 1, 0), 2);
            due.is("shelf", x.shelfOf(1), 4);
            due.is("others there", x.prizesOn(1, 2, 3), 2);
            due.is("shelf of another", x.shelfOf(0), 0);
            x.restock(1, 0, 0, 1);
            x.restock(1, 0, 0, 1);
            due.is("more of the same", x.prizesOn(1, 0, 0), 2);
        });
        s.action(x -> x.restock(2, 3, 3, 3));
        s.stall((x, stall) -> x.restock(stall, 0, 0, 1));
        s.takes("`level`: 0 to 3", 0, 3, Scene::busy, (x, level) -> x.restock(0, level, 0, 1));
        s.takes("`colour`: 0 to 3", 0, 3, Scene::busy, (x, colour) -> x.restock(0, 0, colour, 1));
        s.takes("`many`: 1 to 40", 1, 40, () -> withPurse(40), (x, many) -> x.restock(0, 0, 0, many));
        s.holds("Returns the coins that are left in its purse.", due -> {
            PrizePurses x = withPurse(99);
            due.is("19 of level 0", x.restock(0, 0, 0, 19), 80);
            due.is("4 of level 1", x.restock(0, 1, 1, 4), 68);
            due.is("3 of level 2", x.restock(0, 2, 2, 3), 50);
            due.is("5 of level 3", x.restock(0, 3, 3, 5), 0);
        });
        s.holds("Throws `IndexOutOfBoundsException` if there is no such stall, level or colour", due -> {
            Sentences.noStall(due, (x, stall) -> x.restock(stall, 0, 0, 1));
            Sentences.refuses(due, "level ", INDEX, Scene::busy, (x, level) -> x.restock(0, level, 0, 1), -1, 4);
            Sentences.refuses(due, "colour ", INDEX, Scene::busy, (x, colour) -> x.restock(0, 0, colour, 1), -1, 4);
        });
        s.refuses("Throws `IllegalArgumentException` if many is out of range", ARGUMENT, () -> withShelf(0),
                (x, many) -> x.restock(0, 0, 0, many), 0, 41, -1);
        s.holds("Throws `IllegalStateException` if the shelf would have more than 40 prizes,", due -> {
            due.noState("41", () -> withShelf(40), x -> x.restock(0, 0, 0, 1));
            due.noState("41", () -> withShelf(1), x -> x.restock(0, 0, 0, 40));
            due.is("40", withShelf(1).restock(0, 0, 0, 39), 140);
        });
        s.holds("or the purse does not have the coins", due -> {
            due.noState("none for one", () -> withPurse(0), x -> x.restock(0, 0, 0, 1));
            due.noState("9 for one of 10", () -> withPurse(9), x -> x.restock(0, 3, 0, 1));
            due.noState("99 for ten of 10", () -> withPurse(99), x -> x.restock(0, 3, 0, 10));
            due.is("just enough", withPurse(90).restock(0, 3, 0, 9), 0);
        });
    }

    private static void fund(Sentences s) {
        s.chapter("Promise 7");
        s.holds("Moves coins from the bank to the purse of a stall.", due -> {
            PrizePurses x = Scene.busy();
            int bank = x.bank();
            x.fund(2, 17);
            due.is("bank", x.bank(), bank - 17);
            due.is("purse", x.purseOfStall(2), 47);
            due.is("purse of another", x.purseOfStall(0), 10);
            due.is("all coins", x.coinsByPlaces(), x.allCoins());
        });
        s.action(x -> x.fund(1, 99));
        s.stall((x, stall) -> x.fund(stall, 1));
        s.takes("`coins`: 1 to 99", 1, 99, Scene::busy, (x, coins) -> x.fund(0, coins));
        s.holds("Returns the coins in its purse afterwards.", due -> {
            PrizePurses x = Scene.busy();
            due.is("first", x.fund(0, 99), 109);
            due.is("then", x.fund(0, 1), 110);
            due.is("of another", x.fund(1, 2), 10);
        });
        s.noStall((x, stall) -> x.fund(stall, 1));
        s.refuses("Throws `IllegalArgumentException` if coins is out of range", ARGUMENT, Scene::busy,
                (x, coins) -> x.fund(0, coins), 0, 100, -1);
        s.holds("Throws `IllegalStateException` if the bank does not have them", due -> {
            due.noState("1 of none", () -> Scene.withBank(0), x -> x.fund(0, 1));
            due.noState("99 of 98", () -> Scene.withBank(98), x -> x.fund(0, 99));
            due.is("98 of 98", Scene.withBank(98).fund(0, 98), 470);
            due.is("1 of 1", Scene.withBank(1).fund(0, 1), 470);
        });
    }

    private static void collect(Sentences s) {
        s.chapter("Promise 8");
        s.holds("Moves all coins from the purse of a stall to the bank.", due -> {
            PrizePurses x = Scene.busy();
            int bank = x.bank();
            x.collect(2);
            due.is("bank", x.bank(), bank + 30);
            due.is("purse", x.purseOfStall(2), 0);
            due.is("purse of another", x.purseOfStall(0), 10);
            due.is("it stands", x.stalls(), 3);
        });
        s.action(x -> x.collect(1));
        s.stall((x, stall) -> x.collect(stall));
        s.holds("Returns the coins that are moved.", due -> {
            PrizePurses x = Scene.busy();
            due.is("30", x.collect(2), 30);
            due.is("none", x.collect(2), 0);
            due.is("10", x.collect(0), 10);
        });
        s.noStall((x, stall) -> x.collect(stall));
    }

    private static void questions(Sentences s) {
        s.chapter("Promise 20");
        s.holds("Returns the number of stalls.", due -> {
            PrizePurses x = new PrizePurses();
            for (int built = 0; built < 6; built++) {
                due.is("stalls", x.stalls(), built);
                x.build(built, 0, 1, false);
            }
            due.is("stalls", x.stalls(), 6);
            x.turnStall(0);
            due.is("a closed one counts", x.stalls(), 6);
            x.pullDown(0);
            due.is("one pulled down does not", x.stalls(), 5);
        });
        s.chapter("Promise 21");
        s.holds("Returns the pitch of a stall.", due -> due.is("pitch", Scene.busy().pitchOf(1), 7));
        s.stall((x, stall) -> x.pitchOf(stall));
        s.holds("Returns the pitch.", due -> {
            for (int pitch = 0; pitch < 12; pitch++) {
                PrizePurses x = new PrizePurses();
                x.build(11 - pitch, 0, 1, false);
                due.is("pitch", x.pitchOf(0), 11 - pitch);
            }
        });
        s.noStall((x, stall) -> x.pitchOf(stall));
        s.chapter("Promise 22");
        s.holds("Returns the stall on a pitch, open or closed.", due -> {
            PrizePurses x = Scene.busy();
            due.is("open", x.stallOn(7), 1);
            due.is("closed", x.stallOn(9), 2);
        });
        s.takes("`pitch`: 0 to 11", 0, 11, Scene::busy, (x, pitch) -> x.stallOn(pitch));
        s.holds("Returns the stall;", due -> {
            PrizePurses x = Scene.sixStalls();
            for (int pitch = 0; pitch < 6; pitch++) {
                due.is("stall on " + pitch, x.stallOn(pitch), pitch);
            }
        });
        s.holds("NONE if there is none.", due -> {
            PrizePurses x = Scene.sixStalls();
            for (int pitch = 6; pitch < 12; pitch++) {
                due.is("stall on " + pitch, x.stallOn(pitch), -1);
            }
            x.pullDown(0);
            due.is("where one was pulled down", x.stallOn(0), -1);
            due.is("in a new object", new PrizePurses().stallOn(0), -1);
        });
        s.refuses("Throws `IndexOutOfBoundsException` if there is no such pitch", INDEX, Scene::busy,
                (x, pitch) -> x.stallOn(pitch), -1, 12);
        s.chapter("Promise 23");
        s.holds("Returns the price of a stall.", due -> due.is("price", Scene.busy().priceOf(1), 2));
        s.stall((x, stall) -> x.priceOf(stall));
        s.holds("Returns the price.", due -> {
            for (int price = 1; price <= 9; price++) {
                PrizePurses x = new PrizePurses();
                x.build(0, 0, price, false);
                due.is("price", x.priceOf(0), price);
            }
        });
        s.noStall((x, stall) -> x.priceOf(stall));
    }

    private static void moreQuestions(Sentences s) {
        s.chapter("Promise 24");
        s.holds("Tells whether a stall is open.", due -> due.is("open", Scene.busy().isOpen(1), true));
        s.stall((x, stall) -> x.isOpen(stall) ? 1 : 0);
        s.holds("Returns whether it is.", due -> {
            PrizePurses x = Scene.busy();
            due.is("closed by turning", x.isOpen(2), false);
            Scene.rain(x, 5);
            x.pass(37);
            due.is("its rent could be paid", x.isOpen(0), true);
            x.collect(0);
            x.pass(40);
            due.is("its rent could not be paid", x.isOpen(0), false);
        });
        s.noStall((x, stall) -> x.isOpen(stall) ? 1 : 0);
        s.chapter("Promise 25");
        s.holds("Returns the coins in the purse of a stall.", due -> due.is("purse", Scene.busy().purseOfStall(1), 8));
        s.stall((x, stall) -> x.purseOfStall(stall));
        s.holds("Returns the coins.", due -> {
            PrizePurses x = Scene.quiet();
            x.build(0, PrizePurses.TEA, 7, false);
            due.is("none", x.purseOfStall(0), 0);
            x.come(9, 0, 0);
            x.pass(1);
            due.is("a price", x.purseOfStall(0), 7);
            x.fund(0, 99);
            due.is("and from the bank", x.purseOfStall(0), 106);
            x.restock(0, 3, 3, 10);
            due.is("less a hundred", x.purseOfStall(0), 6);
        });
        s.noStall((x, stall) -> x.purseOfStall(stall));
        s.chapter("Promise 26");
        s.holds("Returns the plays of a stall so far.", due -> {
            PrizePurses x = Scene.quiet();
            x.build(1, PrizePurses.TEA, 1, false);
            x.build(0, PrizePurses.TEA, 1, false);
            x.come(9, 0, 0);
            x.pass(4);
            due.is("plays at the gate", x.playsOf(1), 2);
            due.is("plays behind it", x.playsOf(0), 1);
        });
        s.stall((x, stall) -> x.playsOf(stall));
        s.holds("Returns the number of plays.", due -> {
            PrizePurses x = Scene.rainy();
            x.build(0, PrizePurses.TEA, 1, false);
            for (int plays = 0; plays < 20; plays++) {
                due.is("plays", x.playsOf(0), plays);
                x.come(1, 0, 0);
                x.pass(1);
            }
        });
        s.noStall((x, stall) -> x.playsOf(stall));
        s.chapter("Promise 27");
        s.holds("Returns the rent of a stall for a day.", due -> {
            PrizePurses x = Scene.busy();
            due.is("rent", x.rentOf(1), 4);
            Scene.rain(x, 9);
            x.turnStall(0);
            x.pass(37);
            due.is("what it has paid at the end of the day", x.town(), 4);
        });
        s.stall((x, stall) -> x.rentOf(stall));
        s.holds("Returns the coins.", due -> {
            int[] rents = {8, 7, 7, 6, 6, 5, 5, 4, 4, 3, 3, 2};
            for (int pitch = 0; pitch < 12; pitch++) {
                PrizePurses x = new PrizePurses();
                x.build(pitch, PrizePurses.TEA, 9, true);
                due.is("rent on " + pitch, x.rentOf(0), rents[pitch]);
                x.turnStall(0);
                due.is("rent on " + pitch + ", closed and without a coin", x.rentOf(0), rents[pitch]);
            }
        });
        s.noStall((x, stall) -> x.rentOf(stall));
    }

    private static void questionsOfWinning(Sentences s) {
        s.chapter("Promise 28");
        s.holds("Returns in how many plays a stall has the next one that wins.", due -> {
            for (int kind = 0; kind < 4; kind++) {
                PrizePurses x = Scene.rainy();
                x.build(0, kind, 1, false);
                for (int play = 0; play < 16; play++) {
                    due.is("kind " + kind + " behind " + play, x.playsToWin(0), WINS_EACH[kind] - play % WINS_EACH[kind]);
                    x.come(1, kind, 0);
                    x.pass(1);
                }
            }
        });
        s.stall((x, stall) -> x.playsToWin(stall));
        s.holds("Returns 1 if the next play does, and so on;", due -> {
            for (int kind = 0; kind < 4; kind++) {
                PrizePurses x = withPlaysBefore(kind, 0);
                due.is("the next play", x.playsToWin(0), 1);
                x.pass(1);
                due.is("it wins", x.prizesOf(x.children() - 1), 1);
                due.is("then all of them are to come again", x.playsToWin(0), WINS_EACH[kind]);
            }
        });
        s.holds("NONE for TEA.", due -> {
            PrizePurses x = Scene.rainy();
            x.build(0, PrizePurses.TEA, 1, false);
            for (int play = 0; play < 6; play++) {
                due.is("plays", x.playsToWin(0), -1);
                x.come(1, 0, 0);
                x.pass(1);
            }
        });
        s.noStall((x, stall) -> x.playsToWin(stall));
        s.chapter("Promise 31");
        s.holds("Returns the level of the prize that a play which wins would bring at a stall now.", due -> {
            for (int kind = 0; kind < 4; kind++) {
                for (int shelf = 0; shelf < 16; shelf++) {
                    PrizePurses x = new PrizePurses();
                    x.build(0, kind, 1, false);
                    x.fund(0, 20);
                    int want = NONE;
                    for (int level = 0; level < 4; level++) {
                        if ((shelf >> level & 1) == 1) {
                            x.restock(0, level, (level + kind) % 4, 1);
                            want = level <= MOST_LEVEL[kind] ? level : want;
                        }
                    }
                    due.is("kind " + kind + ", shelf " + shelf, x.levelToWin(0), want);
                }
            }
        });
        s.stall((x, stall) -> x.levelToWin(stall));
        s.holds("Returns the level;", due -> {
            PrizePurses x = withPlaysBefore(PrizePurses.HOOPLA, 3, 13, 23, 33);
            due.is("before the play", x.levelToWin(0), 2);
            x.pass(1);
            due.is("the prize is gone", x.levelToWin(0), 1);
            for (int i = 0; i < 16; i++) {
                PrizePurses y = Scene.stocked(PrizePurses.COCONUTS, 1, false, i / 4 * 10 + i % 4);
                due.is("one of colour " + i % 4, y.levelToWin(0), i / 4);
            }
        });
        s.holds("NONE if there is no such prize,", due -> {
            PrizePurses x = withPlaysBefore(PrizePurses.DARTS, 0);
            due.is("one is there", x.levelToWin(0), 0);
            x.pass(1);
            due.is("the last is gone", x.levelToWin(0), -1);
            int[][] tooGreat = {{30}, {20, 30}, {}, {10, 20, 30}};
            for (int kind = 0; kind < 4; kind++) {
                due.is("an empty shelf", Scene.stocked(kind, 1, false).levelToWin(0), -1);
                due.is("too great levels", Scene.stocked(kind, 1, false, tooGreat[kind]).levelToWin(0), -1);
            }
        });
        s.holds("or the kind is TEA.", due -> {
            due.is("all levels", Scene.stocked(PrizePurses.TEA, 1, false, 0, 11, 22, 33).levelToWin(0), -1);
            due.is("no prize", Scene.stocked(PrizePurses.TEA, 1, false).levelToWin(0), -1);
        });
        s.noStall((x, stall) -> x.levelToWin(stall));
    }

    private static void questionsOfPrizes(Sentences s) {
        s.chapter("Promise 29");
        s.holds("Returns the number of prizes of a level and colour on the shelf of a stall.", due -> {
            PrizePurses x = new PrizePurses();
            x.build(0, PrizePurses.TEA, 1, false);
            x.fund(0, 99);
            x.fund(0, 99);
            for (int i = 0; i < 16; i++) {
                x.restock(0, i / 4, i % 4, 1 + i % 3);
            }
            for (int i = 0; i < 16; i++) {
                due.is("level " + i / 4 + ", colour " + i % 4, x.prizesOn(0, i / 4, i % 4), 1 + i % 3);
            }
        });
        s.stall((x, stall) -> x.prizesOn(stall, 0, 0));
        s.takes("`level`: 0 to 3", 0, 3, Scene::busy, (x, level) -> x.prizesOn(0, level, 0));
        s.takes("`colour`: 0 to 3", 0, 3, Scene::busy, (x, colour) -> x.prizesOn(0, 0, colour));
        s.holds("Returns the number of prizes.", due -> {
            PrizePurses x = withPlaysBefore(PrizePurses.DIP, 1, 1, 2);
            due.is("two", x.prizesOn(0, 0, 1), 2);
            x.pass(1);
            due.is("one is won", x.prizesOn(0, 0, 1), 1);
            due.is("of another colour", x.prizesOn(0, 0, 2), 1);
            due.is("none", x.prizesOn(0, 0, 0), 0);
            due.is("all of a full shelf", withShelf(40).prizesOn(0, 0, 0), 40);
        });
        s.holds("Throws `IndexOutOfBoundsException` if there is no such stall, level or colour", due -> {
            Sentences.noStall(due, (x, stall) -> x.prizesOn(stall, 0, 0));
            Sentences.refuses(due, "level ", INDEX, Scene::busy, (x, level) -> x.prizesOn(0, level, 0), -1, 4);
            Sentences.refuses(due, "colour ", INDEX, Scene::busy, (x, colour) -> x.prizesOn(0, 0, colour), -1, 4);
        });
        s.chapter("Promise 30");
        s.holds("Returns the number of prizes on the shelf of a stall.", due -> {
            PrizePurses x = withShelf(3);
            x.restock(0, 1, 1, 2);
            x.restock(0, 3, 3, 1);
            due.is("six", x.shelfOf(0), 6);
            due.is("the other", x.shelfOf(1), 0);
        });
        s.stall((x, stall) -> x.shelfOf(stall));
        s.holds("Returns 0 to 40.", due -> {
            for (int prizes = 0; prizes <= 40; prizes++) {
                due.is("prizes", withShelf(prizes).shelfOf(0), prizes);
            }
        });
        s.noStall((x, stall) -> x.shelfOf(stall));
    }
}
