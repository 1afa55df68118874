/** What the document says of rain, rounds, days and accounts: terms, the promises 10, 11, 32, 45 to 55. */
final class RoundSentences {
    private static final int TEA = PrizePurses.TEA;
    private static final int DIP = PrizePurses.DIP;
    private static final Class<IndexOutOfBoundsException> INDEX = IndexOutOfBoundsException.class;
    private static final Class<IllegalArgumentException> ARGUMENT = IllegalArgumentException.class;

    private RoundSentences() {
    }

    static void tell(Sentences s) {
        rain(s);
        childrenByThemselves(s);
        turns(s);
        moves(s);
        wants(s);
        plays(s);
        prizes(s);
        theEndOfTheDay(s);
        rents(s);
        setRain(s);
        pass(s);
        wonOf(s);
        time(s);
        coins(s);
        takings(s);
    }

    private static void rain(Sentences s) {
        s.chapter("RAIN");
        s.holds("A day has 10 hours, 0 to 9,", due -> {
            PrizePurses x = new PrizePurses();
            for (int hour = 0; hour < 10; hour++) {
                due.is("setRain", x.setRain(hour, hour), 0);
            }
            for (int hour = 0; hour < 10; hour++) {
                due.is("rainIn", x.rainIn(hour), hour);
            }
            for (int none : new int[] {-1, 10}) {
                due.noIndex("setRain " + none, Scene::busy, y -> y.setRain(none, 0));
                due.noIndex("rainIn " + none, Scene::busy, y -> y.rainIn(none));
            }
            PrizePurses z = Scene.rainy();
            z.setRain(9, 0);
            z.pass(36);
            due.is("the last hour begins with 36", z.isChildDue(), true);
            z.pass(4);
            due.is("it is the last", z.round(), 0);
        });
        s.holds("of 4 rounds each.", due -> {
            for (int hour = 0; hour < 10; hour++) {
                PrizePurses x = new PrizePurses();
                x.setRain(hour, 8);
                if (hour > 0) {
                    x.pass(4 * hour - 1);
                }
                x.come(0, 0, 0);
                int child = x.children() - 1;
                if (hour > 0) {
                    x.pass(1);
                    due.is("before the hour " + hour, x.moodOf(child), 60);
                }
                for (int rounds = 1; rounds <= 4; rounds++) {
                    x.pass(1);
                    due.is("in the hour " + hour, x.moodOf(child), 60 - 4 * rounds);
                }
                x.pass(1);
                due.is("behind the hour " + hour, x.moodOf(child), 44);
            }
        });
        s.holds("Each hour has a rain of 0 to 9", due -> {
            for (int rain = 0; rain <= 9; rain++) {
                PrizePurses x = new PrizePurses();
                x.setRain(4, rain);
                for (int hour = 0; hour < 10; hour++) {
                    due.is("rain of " + hour, x.rainIn(hour), hour == 4 ? rain : 0);
                }
            }
            for (int wrong : new int[] {-1, 10}) {
                due.noArgument("setRain " + wrong, Scene::busy, y -> y.setRain(0, wrong));
            }
        });
        s.holds("(0 at first).", due -> {
            PrizePurses x = new PrizePurses();
            for (int hour = 0; hour < 10; hour++) {
                due.is("rain of " + hour, x.rainIn(hour), 0);
            }
        });
        s.holds("On each day whose number, divided by 7, leaves 6, each hour has 4 more,", due -> {
            PrizePurses x = Scene.rain(new PrizePurses(), 5);
            x.setRain(3, 0);
            x.setRain(9, 1);
            for (int day = 0; day < 28; day++) {
                boolean more = day == 6 || day == 13 || day == 20 || day == 27;
                due.is("rain of 0 on " + day, x.rainIn(0), more ? 9 : 5);
                due.is("rain of 3 on " + day, x.rainIn(3), more ? 4 : 0);
                due.is("rain of 9 on " + day, x.rainIn(9), more ? 5 : 1);
                x.come(0, 0, 0);
                x.pass(1);
                due.is("mood on " + day, x.moodOf(x.children() - 1), more ? 56 : 58);
                x.pass(39);
            }
        });
        s.holds("but at most 9.", due -> {
            PrizePurses x = new PrizePurses();
            for (int hour = 0; hour < 10; hour++) {
                x.setRain(hour, hour);
            }
            for (int day = 0; day < 6; day++) {
                x.pass(40);
            }
            int[] rains = {4, 5, 6, 7, 8, 9, 9, 9, 9, 9};
            for (int hour = 0; hour < 10; hour++) {
                due.is("rain of " + hour, x.rainIn(hour), rains[hour]);
            }
            x.setRain(0, 9);
            x.come(0, 0, 0);
            x.pass(1);
            due.is("half of 9", x.moodOf(x.children() - 1), 56);
        });
    }

    private static void childrenByThemselves(Sentences s) {
        s.chapter("A ROUND");
        s.holds("In each round these things happen, one after the other:", due -> {
            PrizePurses x = new PrizePurses();
            x.pass(1);
            due.is("a child comes, and then it moves", x.placeOf(0), 1);
            PrizePurses y = Scene.rainy();
            y.build(0, TEA, 9, false);
            y.pass(39);
            y.come(9, 0, 0);
            y.pass(1);
            due.is("it plays, and then the day ends", y.isAtFair(0), false);
            due.is("what it pays is there for the rent", y.town(), 8);
            due.is("and is enough for it", y.isOpen(0), true);
        });
        s.holds("A child comes by itself, if the number of the round in the day (0 to 39) can be divided by 4"
                + " and there is no rain,", due -> {
            PrizePurses x = new PrizePurses();
            for (int round = 0; round < 80; round++) {
                int before = x.children();
                x.pass(1);
                due.is("behind " + round, x.children() - before, round % 4 == 0 ? 1 : 0);
            }
        });
        s.holds("or can be divided by 8 and the rain is 1 to 4,", due -> {
            for (int rain = 1; rain <= 9; rain++) {
                PrizePurses x = Scene.rain(new PrizePurses(), rain);
                for (int round = 0; round < 40; round++) {
                    int before = x.children();
                    x.pass(1);
                    due.is("rain " + rain + ", behind " + round, x.children() - before,
                            rain <= 4 && round % 8 == 0 ? 1 : 0);
                }
            }
        });
        s.holds("and there is room for it.", due -> {
            PrizePurses x = Scene.forty();
            x.pass(1);
            due.is("no room for the 41st", x.children(), 40);
            PrizePurses y = Scene.forty();
            y.undo();
            y.pass(1);
            due.is("room for the 40th", y.children(), 40);
            PrizePurses z = Scene.manyChildren(199);
            z.pass(40);
            Scene.rain(z, 0);
            due.is("the 200th comes", z.isChildDue(), true);
            z.pass(1);
            due.is("the last of 200", z.children(), 200);
            int coins = z.allCoins();
            z.pass(39);
            due.is("the 201st does not come", z.children(), 200);
            due.is("nor bring coins", z.allCoins(), coins);
        });
        s.holds("Its purse is 5 plus what is left of 7 times its number divided by 25,", due -> {
            PrizePurses x = new PrizePurses();
            int purse = 5;
            for (int child = 0; child < 60; child++) {
                x.pass(4);
                due.is("purse of " + child, x.purseOf(child), purse);
                purse = purse + 7 < 30 ? purse + 7 : purse + 7 - 25;
            }
        });
        s.holds("its favourite kind what is left of its number divided by 5,", due -> {
            for (int child = 0; child < 12; child++) {
                PrizePurses x = sulkerByItself(child);
                for (int kind = 0; kind < 4; kind++) {
                    x.build(7, kind, 1, false);
                    due.is(child + " at " + kind, x.whyNoPlay(child), kind == child % 5 ? 0 : PrizePurses.SULKING);
                    x.pullDown(0);
                }
            }
        });
        s.holds("its favourite colour what is left of its number divided by 4.", due -> {
            for (int child = 0; child < 10; child++) {
                PrizePurses x = new PrizePurses();
                x.build(0, DIP, 1, false);
                x.fund(0, 4);
                for (int colour = 0; colour < 4; colour++) {
                    x.restock(0, 0, colour, 1);
                }
                for (int before = 0; before < child; before++) {
                    x.come(0, 0, 0);
                }
                x.pass(1);
                due.is("a prize for " + child, x.prizesOf(child), 1);
                due.is("the one it has won", x.prizesOn(0, 0, child % 4), 0);
                due.is("its mood by that", x.moodOf(child), 90);
            }
        });
    }

    /** Child n has come by itself, stands on pitch 7, and has a mood of 48. */
    private static PrizePurses sulkerByItself(int child) {
        PrizePurses x = Scene.rain(new PrizePurses(), 9);
        for (int before = 0; before < child; before++) {
            x.come(0, 0, 0);
        }
        x.setRain(0, 0);
        x.pass(7);
        return x;
    }

    private static void turns(Sentences s) {
        s.holds("Each child at the fair, by rising numbers, does this:", due -> {
            PrizePurses x = Scene.stocked(DIP, 1, false, 0);
            x.come(1, 0, 0);
            x.come(1, 0, 0);
            x.come(1, 0, 0);
            x.pass(1);
            due.is("the first one plays", x.prizesOf(0), 1);
            due.is("the second does not", x.prizesOf(1), 0);
            due.is("the third does not", x.prizesOf(2), 0);
            due.is("but all do something", x.crowdOn(1), 2);
        });
        s.holds("It loses half of the rain in mood", due -> {
            int[] halves = {0, 0, 1, 1, 2, 2, 3, 3, 4, 4};
            for (int rain = 0; rain <= 9; rain++) {
                PrizePurses x = Scene.rain(Scene.quiet(), rain);
                x.come(0, 0, 0);
                x.pass(1);
                due.is("rain " + rain, x.moodOf(0), 60 - halves[rain]);
                x.pass(1);
                due.is("twice", x.moodOf(0), 60 - 2 * halves[rain]);
            }
        });
        s.holds("(but at least 0 is left),", due -> {
            PrizePurses x = Scene.rain(new PrizePurses(), 8);
            x.come(0, 0, 0);
            x.pass(14);
            Scene.rain(x, 5);
            x.pass(1);
            due.is("two are left", x.moodOf(0), 2);
            Scene.rain(x, 9);
            x.pass(1);
            due.is("less 4", x.moodOf(0), 0);
        });
        s.holds("unless there is an open stall with a roof on its pitch.", due -> {
            int[] moods = {56, 60, 56, 56};
            for (int i = 0; i < 4; i++) {
                PrizePurses x = Scene.rain(Scene.quiet(), 9);
                x.build(0, TEA, 9, i % 2 == 1);
                if (i >= 2) {
                    x.turnStall(0);
                }
                x.build(1, TEA, 9, true);
                x.come(0, 0, 0);
                x.pass(1);
                due.is((i % 2 == 1 ? "a roof" : "none") + (i >= 2 ? ", closed" : ", open"), x.moodOf(0), moods[i]);
                x.pass(1);
                due.is("the next one has a roof", x.moodOf(0), moods[i]);
                x.pass(1);
                due.is("there is none behind it", x.moodOf(0), moods[i] - 4);
            }
        });
        s.holds("If its mood is 0, it goes home.", due -> {
            PrizePurses x = Scene.rain(new PrizePurses(), 8);
            x.build(8, TEA, 1, false);
            x.come(9, TEA, 0);
            x.pass(14);
            due.is("tea on its way", x.moodOf(0), 60 - 14 * 4 + 30);
            PrizePurses y = Scene.rain(new PrizePurses(), 8);
            y.come(9, TEA, 0);
            y.pass(14);
            due.is("a mood of 4", y.isAtFair(0), true);
            y.build(y.placeOf(0), TEA, 1, false);
            y.pass(1);
            due.is("none, even where it would play", y.isAtFair(0), false);
            due.is("plays", y.plays(), 0);
            PrizePurses z = Scene.rain(new PrizePurses(), 8);
            z.come(9, TEA, 0);
            z.pass(14);
            Scene.rain(z, 7);
            z.pass(1);
            due.is("a mood of 1", z.moodOf(0), 1);
            due.is("is none of 0", z.isAtFair(0), true);
            Scene.rain(z, 1);
            z.pass(1);
            due.is("nor later", z.isAtFair(0), true);
            PrizePurses w = Scene.rain(new PrizePurses(), 8);
            w.come(9, DIP, 0);
            w.pass(13);
            w.build(9, DIP, 1, true);
            w.pass(1);
            due.is("a play that leaves no mood", w.isAtFair(0), true);
            w.pass(1);
            due.is("then it goes, from under a roof", w.isAtFair(0), false);
            due.is("plays", w.plays(), 1);
        });
        s.holds("Otherwise, if there is an open stall on its pitch which it wants,", due -> {
            PrizePurses x = Scene.quiet();
            x.build(0, TEA, 5, false);
            x.come(5, 0, 0);
            due.is("open and wanted", x.pass(1), 1);
            PrizePurses y = Scene.quiet();
            y.build(0, TEA, 5, false);
            y.turnStall(0);
            y.come(5, 0, 0);
            due.is("closed", y.pass(1), 0);
            due.is("it moves on", y.placeOf(0), 1);
            PrizePurses z = Scene.quiet();
            z.build(0, TEA, 6, false);
            z.come(5, 0, 0);
            due.is("not wanted", z.pass(1), 0);
            due.is("it moves on", z.placeOf(0), 1);
        });
        s.holds("and no other child has played there in this round,", due -> {
            PrizePurses x = Scene.quiet();
            x.build(0, TEA, 1, false);
            x.build(1, TEA, 1, false);
            x.come(0, 0, 0);
            x.come(9, 0, 0);
            x.come(9, 0, 0);
            due.is("one of two who can pay", x.pass(1), 1);
            due.is("the first of them", x.purseOf(1), 8);
            due.is("the second moves on", x.placeOf(2), 1);
            due.is("in the next round both play, each at a stall", x.pass(1), 2);
            x.come(9, 0, 0);
            due.is("where one played before, another plays", x.pass(1), 2);
            due.is("who came later", x.purseOf(3), 8);
        });
        s.holds("it plays there.", due -> {
            PrizePurses x = Scene.quiet();
            x.build(0, TEA, 2, false);
            x.come(9, 0, 0);
            due.is("pass", x.pass(1), 1);
            due.is("it stays", x.placeOf(0), 0);
            due.is("it has paid", x.purseOf(0), 7);
            due.is("the play counts", x.playsOf(0), 1);
            due.is("the play counts", x.plays(), 1);
        });
    }

    private static void moves(Sentences s) {
        s.holds("Otherwise it moves on: outward to the next pitch,", due -> {
            PrizePurses x = Scene.quiet();
            x.come(0, 0, 0);
            for (int pitch = 1; pitch <= 11; pitch++) {
                x.pass(1);
                due.is("place", x.placeOf(0), pitch);
                due.is("homeward", x.isHomeward(0), false);
            }
        });
        s.holds("but from the pitch 11 it turns homeward and goes to the pitch 10;", due -> {
            PrizePurses x = Scene.quiet();
            x.come(0, 0, 0);
            x.pass(11);
            due.is("place", x.placeOf(0), 11);
            due.is("homeward", x.isHomeward(0), false);
            x.pass(1);
            due.is("place", x.placeOf(0), 10);
            due.is("homeward", x.isHomeward(0), true);
        });
        s.holds("homeward to the pitch before,", due -> {
            PrizePurses x = Scene.quiet();
            x.come(0, 0, 0);
            x.pass(12);
            for (int pitch = 9; pitch >= 0; pitch--) {
                x.pass(1);
                due.is("place", x.placeOf(0), pitch);
                due.is("homeward", x.isHomeward(0), true);
            }
        });
        s.holds("but from the pitch 0 it goes home.", due -> {
            PrizePurses x = Scene.quiet();
            x.come(0, 0, 0);
            x.pass(22);
            due.is("place", x.placeOf(0), 0);
            due.is("at the fair", x.isAtFair(0), true);
            x.pass(1);
            due.is("place", x.placeOf(0), PrizePurses.NONE);
            due.is("at the fair", x.isAtFair(0), false);
        });
        s.holds("When it moves, its plays here become 0.", due -> {
            PrizePurses x = Scene.quiet();
            x.build(0, TEA, 1, false);
            x.build(1, TEA, 1, false);
            x.come(9, 0, 0);
            x.pass(2);
            due.is("two plays at the gate", x.whyNoPlay(0), PrizePurses.ENOUGH);
            x.pass(1);
            due.is("none where it has moved", x.whyNoPlay(0), 0);
            due.is("two more there", x.pass(2), 2);
            due.is("place", x.placeOf(0), 1);
            PrizePurses y = Scene.quiet();
            y.build(0, TEA, 1, false);
            y.build(1, TEA, 1, false);
            y.come(9, 0, 0);
            y.pass(1);
            y.turnStall(0);
            y.pass(1);
            due.is("one play behind it, two more there", y.pass(2), 2);
            PrizePurses z = Scene.quiet();
            z.build(11, TEA, 1, false);
            z.build(10, TEA, 1, false);
            z.come(9, 0, 0);
            z.pass(12);
            due.is("two at 10 on the way out", z.purseOf(0), 7);
            z.pass(3);
            due.is("two at 11, where it turns", z.purseOf(0), 5);
            z.pass(3);
            due.is("and two at 10 on the way home", z.purseOf(0), 3);
        });
    }

    private static void wants(Sentences s) {
        s.holds("A child wants a stall if its purse has the price,", due -> {
            for (int price = 1; price <= 9; price++) {
                PrizePurses x = Scene.quiet();
                x.build(0, TEA, price, false);
                x.come(5, 0, 0);
                due.is("reason at " + price, x.whyNoPlay(0), price <= 5 ? 0 : PrizePurses.TOO_DEAR);
                due.is("plays at " + price, x.pass(1), price <= 5 ? 1 : 0);
            }
        });
        s.holds("its plays here are less than 2,", due -> {
            PrizePurses x = Scene.quiet();
            x.build(0, TEA, 1, false);
            x.come(9, TEA, 0);
            due.is("the first", x.pass(1), 1);
            due.is("the second", x.pass(1), 1);
            due.is("no third", x.pass(1), 0);
            due.is("it has moved on", x.placeOf(0), 1);
            PrizePurses y = Scene.quiet();
            y.build(0, TEA, 1, false);
            y.come(9, TEA, 0);
            y.pass(2);
            y.pullDown(0);
            y.build(0, DIP, 1, false);
            due.is("nor at another stall there", y.pass(1), 0);
        });
        s.holds("and the kind is its favourite one,", due -> {
            for (int kind = 0; kind < 4; kind++) {
                for (int favourite = 0; favourite < 5; favourite++) {
                    PrizePurses x = ChildSentences.sulker(favourite);
                    x.build(6, kind, 9, false);
                    due.is("a mood of 49, " + favourite + " at " + kind, x.pass(1), kind == favourite ? 1 : 0);
                }
            }
        });
        s.holds("or its mood is at least 50,", due -> {
            for (int kind = 0; kind < 5; kind++) {
                PrizePurses x = ChildSentences.content(4 - kind);
                x.build(5, kind, 9, false);
                due.is("a mood of 50 at " + kind, x.pass(1), 1);
                PrizePurses y = ChildSentences.content(kind == 0 ? 1 : 0);
                y.setRain(1, 2);
                y.build(5, kind, 9, false);
                due.is("a mood of 50, of which the rain takes 1, at " + kind, y.pass(1), kind == TEA ? 1 : 0);
            }
        });
        s.holds("or the kind is TEA.", due -> {
            for (int favourite = 0; favourite < 5; favourite++) {
                PrizePurses x = ChildSentences.sulker(favourite);
                x.build(6, TEA, 9, false);
                due.is("a mood of 49, a favourite of " + favourite, x.pass(1), 1);
            }
        });
    }

    private static void plays(Sentences s) {
        s.holds("To play means: the price goes from the child's purse to the stall's,", due -> {
            PrizePurses x = Scene.quiet();
            x.build(0, TEA, 6, false);
            x.come(13, 0, 0);
            x.pass(1);
            due.is("the child's", x.purseOf(0), 7);
            due.is("the stall's", x.purseOfStall(0), 6);
            x.setPrice(0, 7);
            x.pass(1);
            due.is("the child's", x.purseOf(0), 0);
            due.is("the stall's", x.purseOfStall(0), 13);
            due.is("the bank's", x.bank(), 470);
        });
        s.holds("the plays of the stall and the plays here grow by 1.", due -> {
            PrizePurses x = Scene.quiet();
            x.build(0, TEA, 1, false);
            x.come(9, 0, 0);
            x.pass(1);
            due.is("plays of the stall", x.playsOf(0), 1);
            due.is("one play here", x.whyNoPlay(0), 0);
            x.pass(1);
            due.is("plays of the stall", x.playsOf(0), 2);
            due.is("two plays here", x.whyNoPlay(0), PrizePurses.ENOUGH);
        });
        s.holds("With TEA, the mood grows by 15.", due -> {
            PrizePurses x = Scene.stocked(TEA, 1, false, 0, 1);
            x.come(9, TEA, 0);
            x.pass(1);
            due.is("once", x.moodOf(0), 75);
            x.pass(1);
            due.is("twice", x.moodOf(0), 90);
        });
    }

    private static void prizes(Sentences s) {
        s.holds("With another kind, if the play wins and the shelf has a prize of a level that can be won there,"
                + " the child wins one of the greatest such level:", due -> {
            int[] winsEach = {4, 3, 5, 1};
            int[] mostLevel = {2, 1, 3, 0};
            for (int kind = 0; kind < 4; kind++) {
                for (int shelf = 0; shelf < 16; shelf++) {
                    int want = -1;
                    PrizePurses x = Scene.quiet();
                    x.build(0, kind, 1, false);
                    x.fund(0, 20);
                    for (int level = 0; level < 4; level++) {
                        if ((shelf >> level & 1) == 1) {
                            x.restock(0, level, 3 - level, 1);
                            want = level <= mostLevel[kind] ? level : want;
                        }
                    }
                    for (int play = 1; play <= winsEach[kind]; play++) {
                        due.is("nothing before play " + play, x.shelfOf(0), Integer.bitCount(shelf));
                        x.come(1, kind, 0);
                        x.pass(1);
                    }
                    for (int level = 0; level < 4; level++) {
                        due.is("kind " + kind + ", shelf " + shelf, x.wonOf(level), level == want ? 1 : 0);
                    }
                    due.is("its prizes", x.prizesOf(winsEach[kind] - 1), want < 0 ? 0 : 1);
                }
            }
        });
        s.holds("of its favourite colour if there is one,", due -> {
            for (int favourite = 0; favourite < 4; favourite++) {
                PrizePurses x = Scene.stocked(DIP, 1, false, 0, 1, 2, 3);
                x.come(1, 0, favourite);
                x.pass(1);
                for (int colour = 0; colour < 4; colour++) {
                    due.is(favourite + " is its own", x.prizesOn(0, 0, colour), colour == favourite ? 0 : 1);
                }
            }
            PrizePurses y = Scene.stocked(PrizePurses.DARTS, 1, false, 11, 2);
            y.come(1, 0, 0);
            y.pass(1);
            y.come(1, 0, 0);
            y.pass(1);
            y.come(1, 0, 2);
            y.pass(1);
            due.is("the greater level before the favourite colour", y.wonOf(1), 1);
        });
        s.holds("otherwise of the colour with the least number;", due -> {
            int[][] shelves = {{1, 2, 3}, {2, 3}, {3}, {0, 2, 3}, {0, 1}, {1, 3}};
            int[] favourites = {0, 0, 1, 1, 3, 2};
            for (int i = 0; i < shelves.length; i++) {
                PrizePurses x = Scene.stocked(DIP, 1, false, shelves[i]);
                x.come(1, 0, favourites[i]);
                x.pass(1);
                due.is("shelf " + i, x.prizesOn(0, 0, shelves[i][0]), 0);
                due.is("one prize", x.shelfOf(0), shelves[i].length - 1);
            }
        });
        s.holds("its mood grows by 20,", due -> {
            PrizePurses x = Scene.stocked(DIP, 1, false, 1);
            x.come(1, 0, 0);
            x.pass(1);
            due.is("a colour that is not its favourite", x.moodOf(0), 80);
        });
        s.holds("and by 10 more if the prize has its favourite colour.", due -> {
            for (int colour = 0; colour < 4; colour++) {
                PrizePurses x = Scene.stocked(DIP, 1, false, colour);
                x.come(1, 0, colour);
                x.pass(1);
                due.is("colour " + colour, x.moodOf(0), 90);
            }
        });
        s.holds("If nothing is won, its mood falls by 8.", due -> {
            for (int kind = 0; kind < 4; kind++) {
                PrizePurses x = Scene.stocked(kind, 1, false);
                x.come(1, 0, 0);
                x.pass(1);
                due.is("an empty shelf, kind " + kind, x.moodOf(0), 52);
            }
            PrizePurses x = Scene.stocked(PrizePurses.DARTS, 1, false, 0);
            x.come(2, 0, 0);
            x.pass(2);
            due.is("two plays that do not win", x.moodOf(0), 44);
            x.come(1, 0, 0);
            x.pass(1);
            due.is("the one that wins", x.moodOf(1), 90);
            PrizePurses y = Scene.stocked(DIP, 1, false, 10, 20, 30);
            y.come(1, 0, 0);
            y.pass(1);
            due.is("none but prizes of greater levels", y.moodOf(0), 52);
        });
        s.holds("The mood is always kept from 0 to 100.", due -> {
            PrizePurses x = Scene.stocked(DIP, 1, false, 1, 1);
            x.build(1, TEA, 1, false);
            x.come(9, 0, 1);
            x.pass(1);
            due.is("30 more", x.moodOf(0), 90);
            x.pass(1);
            due.is("30 more than 90", x.moodOf(0), 100);
            x.pass(2);
            due.is("15 more than 100", x.moodOf(0), 100);
            PrizePurses y = Scene.stocked(TEA, 1, false);
            y.build(1, TEA, 1, false);
            y.come(9, 0, 1);
            y.pass(4);
            due.is("15 more than 90", y.moodOf(0), 100);
            PrizePurses z = Scene.rain(new PrizePurses(), 8);
            z.build(8, DIP, 1, true);
            z.come(9, DIP, 0);
            z.pass(7);
            Scene.rain(z, 9);
            z.turnStall(0);
            z.pass(7);
            due.is("four are left", z.moodOf(0), 4);
            z.pullDown(0);
            z.build(z.placeOf(0), DIP, 1, true);
            z.pass(1);
            due.is("8 less than 4", z.moodOf(0), 0);
        });
    }

    private static void theEndOfTheDay(Sentences s) {
        s.holds("Behind the round 39 of a day, the day ends:", due -> {
            PrizePurses x = Scene.rainy();
            x.pass(39);
            due.is("round", x.round(), 39);
            due.is("day", x.day(), 0);
            x.pass(1);
            due.is("round", x.round(), 0);
            due.is("day", x.day(), 1);
            x.pass(40);
            due.is("round", x.round(), 0);
            due.is("day", x.day(), 2);
            x.pass(39);
            x.pass(40);
            due.is("round", x.round(), 39);
            due.is("day", x.day(), 3);
        });
        s.holds("all children go home;", due -> {
            PrizePurses x = Scene.rainy();
            x.build(0, TEA, 1, false);
            x.fund(0, 20);
            x.pass(30);
            x.come(0, 0, 0);
            x.pass(8);
            x.come(9, 0, 0);
            due.is("before the round 38", x.atFair(), 2);
            x.pass(1);
            due.is("before the round 39", x.atFair(), 2);
            x.pass(1);
            due.is("behind it", x.atFair(), 0);
            due.is("who walked", x.placeOf(0), PrizePurses.NONE);
            due.is("who played", x.placeOf(1), PrizePurses.NONE);
            due.is("its coins stay its own", x.purseOf(1), 7);
        });
    }

    private static void rents(Sentences s) {
        s.holds("each open stall pays its rent, by rising numbers:", due -> {
            PrizePurses x = Scene.rainy();
            x.build(0, TEA, 1, false);
            x.build(1, TEA, 1, true);
            x.build(2, TEA, 1, false);
            for (int stall = 0; stall < 3; stall++) {
                x.fund(stall, 20);
            }
            x.turnStall(1);
            x.pass(39);
            due.is("none before the end", x.town(), 0);
            x.pass(1);
            due.is("an open one", x.purseOfStall(0), 12);
            due.is("a closed one", x.purseOfStall(1), 20);
            due.is("another open one", x.purseOfStall(2), 13);
            due.is("bank", x.bank(), 500 - 30 - 50 - 30 - 60);
            x.pass(40);
            due.is("on each day", x.purseOfStall(0), 4);
        });
        s.holds("2 plus half of the difference between 12 and its pitch;", due -> {
            int[] rents = {8, 7, 7, 6, 6, 5, 5, 4, 4, 3, 3, 2};
            for (int pitch = 0; pitch < 12; pitch++) {
                PrizePurses x = Scene.rainy();
                x.build(pitch, TEA, 1, true);
                x.fund(0, 50);
                x.pass(40);
                due.is("what is left on " + pitch, x.purseOfStall(0), 50 - rents[pitch]);
            }
        });
        s.holds("a stall that does not have so much pays what it has,", due -> {
            for (int purse = 0; purse <= 9; purse++) {
                PrizePurses x = withRentDue(purse);
                due.is("town, of " + purse, x.town(), Math.min(8, purse));
                due.is("purse, of " + purse, x.purseOfStall(0), Math.max(0, purse - 8));
            }
        });
        s.holds("and is closed.", due -> {
            for (int purse = 0; purse <= 9; purse++) {
                due.is("open with " + purse, withRentDue(purse).isOpen(0), purse >= 8);
            }
            PrizePurses x = withRentDue(3);
            x.fund(0, 50);
            x.pass(40);
            due.is("it stays closed", x.isOpen(0), false);
            due.is("and pays nothing", x.purseOfStall(0), 50);
        });
        s.holds("The rents go to the town.", due -> {
            PrizePurses x = Scene.rainy();
            x.build(0, TEA, 1, false);
            x.build(6, TEA, 1, false);
            x.fund(0, 99);
            x.fund(1, 3);
            int bank = x.bank();
            x.pass(40);
            due.is("8 and 3", x.town(), 11);
            x.pass(40);
            due.is("8 more", x.town(), 19);
            due.is("bank", x.bank(), bank);
            due.is("all coins", x.coinsByPlaces(), 500);
        });
    }

    /** Behind the first day of a stall at the gate, whose rent is 8. */
    private static PrizePurses withRentDue(int purse) {
        PrizePurses x = Scene.rainy();
        x.build(0, TEA, 1, false);
        if (purse > 0) {
            x.fund(0, purse);
        }
        x.pass(40);
        return x;
    }

    private static void setRain(Sentences s) {
        s.chapter("Promise 10");
        s.holds("Changes the rain of an hour,", due -> {
            PrizePurses x = new PrizePurses();
            x.setRain(0, 7);
            x.setRain(9, 3);
            for (int hour = 0; hour < 10; hour++) {
                due.is("rain of " + hour, x.rainIn(hour), hour == 0 ? 7 : hour == 9 ? 3 : 0);
            }
        });
        s.holds("of this and all later days.", due -> {
            PrizePurses x = new PrizePurses();
            x.setRain(2, 3);
            for (int day = 0; day < 8; day++) {
                due.is("rain on " + day, x.rainIn(2), day == 6 ? 7 : 3);
                x.pass(40);
            }
        });
        s.action(x -> x.setRain(5, 5));
        s.takes("`hour`: 0 to 9", 0, 9, Scene::busy, (x, hour) -> x.setRain(hour, 1));
        s.takes("`rain`: 0 to 9", 0, 9, Scene::busy, (x, rain) -> x.setRain(1, rain));
        s.holds("Returns the previous rain,", due -> {
            PrizePurses x = new PrizePurses();
            due.is("at first", x.setRain(3, 9), 0);
            due.is("then", x.setRain(3, 2), 9);
            due.is("then", x.setRain(3, 2), 2);
            due.is("of another hour", x.setRain(4, 2), 0);
        });
        s.holds("without the 4 more that some days have.", due -> {
            PrizePurses x = Scene.rain(new PrizePurses(), 7);
            for (int day = 0; day < 6; day++) {
                x.pass(40);
            }
            due.is("rain on the day 6", x.rainIn(0), 9);
            due.is("previous", x.setRain(0, 2), 7);
            due.is("rain then", x.rainIn(0), 6);
            due.is("previous", x.setRain(0, 0), 2);
        });
        s.refuses("Throws `IndexOutOfBoundsException` if there is no such hour", INDEX, Scene::busy,
                (x, hour) -> x.setRain(hour, 1), -1, 10);
        s.refuses("Throws `IllegalArgumentException` if rain is out of range", ARGUMENT, Scene::busy,
                (x, rain) -> x.setRain(1, rain), -1, 10);
    }

    private static void pass(Sentences s) {
        s.chapter("Promise 11");
        s.holds("Lets rounds pass.", due -> {
            PrizePurses x = new PrizePurses();
            PrizePurses y = new PrizePurses();
            x.build(2, TEA, 1, false);
            y.build(2, TEA, 1, false);
            x.come(9, 0, 0);
            y.come(9, 0, 0);
            int plays = 0;
            for (int round = 0; round < 17; round++) {
                plays += x.pass(1);
            }
            due.is("seventeen at once", y.pass(17), plays);
            due.is("round", y.round(), 17);
            x.undo();
            x.undo();
            x.undo();
            x.undo();
            x.pass(4);
            due.is("as one by one", Answers.of(y).replaceAll("records \\d", ""),
                    Answers.of(x).replaceAll("records \\d", ""));
        });
        s.action(x -> x.pass(40));
        s.takes("`rounds`: 1 to 40", 1, 40, Scene::busy, (x, rounds) -> x.pass(rounds));
        s.holds("Returns the plays in them.", due -> {
            PrizePurses x = Scene.quiet();
            x.build(0, TEA, 1, false);
            x.build(1, TEA, 1, false);
            due.is("nobody is here", x.pass(1), 0);
            x.come(9, 0, 0);
            due.is("one", x.pass(1), 1);
            x.come(9, 0, 0);
            due.is("one at the gate, then one by each behind it", x.pass(3), 3);
            due.is("all", x.plays(), 4);
        });
        s.refuses("Throws `IllegalArgumentException` if rounds is out of range", ARGUMENT, Scene::busy,
                (x, rounds) -> x.pass(rounds), 0, 41, -1);
        // 512 calls can't come so far; what the document says of the day holds all the same.
        s.holds("Throws `IllegalStateException` if the day would become greater than 9999", due -> {
            PrizePurses x = Scene.typed(Scene.rainy(), "p40" + ";p40".repeat(19));
            for (int i = 0; i < 499; i++) {
                x.carryOut();
            }
            for (int day = 9980; day < 9998; day++) {
                x.pass(40);
            }
            x.pass(1);
            due.is("into the day 9999", Due.outcome(() -> x.pass(40)), "answered 0");
            due.is("day", x.day(), 9999);
            due.is("out of it", Due.outcome(() -> x.pass(39)), "IllegalStateException");
            due.is("far out of it", Due.outcome(() -> x.pass(40)), "IllegalStateException");
            due.is("41 rounds out of it", Due.outcome(() -> x.pass(41)), "IllegalArgumentException");
            due.is("to its last round", Due.outcome(() -> x.pass(38)), "answered 0");
            due.is("by its last round", Due.outcome(() -> x.pass(1)), "IllegalStateException");
            due.is("round", x.round(), 39);
            due.is("day", x.day(), 9999);
            Scene.typed(x, "w0=5;p1");
            due.is("the order that could not be", x.impossibleOrder(), 1);
            due.is("carrying out", Due.outcome(x::carryOut), "IllegalStateException");
        });
    }

    private static void wonOf(Sentences s) {
        s.chapter("Promise 32");
        s.holds("Returns the number of prizes of a level that have been won so far.", due -> {
            PrizePurses x = Scene.stocked(DIP, 1, false, 0, 1, 2);
            x.build(1, DIP, 1, false);
            x.fund(1, 20);
            x.restock(1, 0, 0, 5);
            for (int won = 0; won < 3; won++) {
                due.is("won", x.wonOf(0), won);
                x.come(1, 0, 0);
                x.pass(1);
            }
            x.pullDown(0);
            due.is("at a stall that is gone", x.wonOf(0), 3);
            x.come(2, 0, 0);
            x.pass(2);
            due.is("and at another", x.wonOf(0), 4);
        });
        s.takes("`level`: 0 to 3", 0, 3, Scene::busy, (x, level) -> x.wonOf(level));
        s.holds("Returns the number of prizes.", due -> {
            PrizePurses x = Scene.stocked(PrizePurses.COCONUTS, 1, false, 0, 10, 20, 30);
            for (int play = 1; play <= 5; play++) {
                x.come(1, 0, 0);
                x.pass(1);
            }
            for (int level = 0; level < 4; level++) {
                due.is("won of level " + level, x.wonOf(level), level == 3 ? 1 : 0);
            }
        });
        s.refuses("Throws `IndexOutOfBoundsException` if there is no such level", INDEX, Scene::busy,
                (x, level) -> x.wonOf(level), -1, 4);
    }

    private static void time(Sentences s) {
        s.chapter("Promise 45");
        s.holds("Returns the day.", due -> {
            PrizePurses x = Scene.rainy();
            for (int day = 0; day < 30; day++) {
                due.is("day", x.day(), day);
                x.pass(39);
                due.is("day, in its last round", x.day(), day);
                x.pass(1);
            }
        });
        s.chapter("Promise 46");
        s.holds("Returns the round of the day, 0 to 39: the next one that passes.", due -> {
            PrizePurses x = Scene.rainy();
            for (int round = 0; round < 85; round++) {
                due.is("round", x.round(), round % 40);
                x.pass(1);
            }
        });
        s.chapter("Promise 47");
        s.holds("Returns the rain of an hour on the day as it is now.", due -> {
            PrizePurses x = new PrizePurses();
            x.setRain(8, 2);
            for (int day = 0; day < 15; day++) {
                due.is("rain on " + day, x.rainIn(8), day == 6 || day == 13 ? 6 : 2);
                x.pass(1);
                due.is("later on that day", x.rainIn(8), day == 6 || day == 13 ? 6 : 2);
                x.pass(39);
            }
        });
        s.takes("`hour`: 0 to 9", 0, 9, Scene::busy, (x, hour) -> x.rainIn(hour));
        s.holds("Returns 0 to 9.", due -> {
            PrizePurses x = new PrizePurses();
            for (int rain = 0; rain <= 9; rain++) {
                x.setRain(9, rain);
                due.is("rain", x.rainIn(9), rain);
            }
            for (int day = 0; day < 6; day++) {
                x.pass(40);
            }
            for (int rain = 0; rain <= 9; rain++) {
                x.setRain(9, rain);
                due.is("rain with 4 more", x.rainIn(9), Math.min(9, rain + 4));
            }
        });
        s.refuses("Throws `IndexOutOfBoundsException` if there is no such hour", INDEX, Scene::busy,
                (x, hour) -> x.rainIn(hour), -1, 10);
        s.chapter("Promise 48");
        s.holds("Returns whether a child would come by itself in the next round.", due -> {
            for (int rain = 0; rain <= 9; rain++) {
                PrizePurses x = Scene.rain(new PrizePurses(), rain);
                for (int round = 0; round < 41; round++) {
                    boolean comes = rain == 0 ? round % 4 == 0 : rain <= 4 && round % 8 == 0;
                    due.is("rain " + rain + ", round " + round, x.isChildDue(), comes);
                    x.pass(1);
                }
            }
            due.is("forty are here", Scene.forty().isChildDue(), false);
            PrizePurses y = Scene.forty();
            y.undo();
            due.is("39 are here", y.isChildDue(), true);
            PrizePurses z = Scene.manyChildren(199);
            z.pass(40);
            Scene.rain(z, 0);
            due.is("199 have come", z.isChildDue(), true);
            z.come(0, 0, 0);
            due.is("200 have come", z.isChildDue(), false);
        });
    }

    private static void coins(Sentences s) {
        s.chapter("Promise 49");
        s.holds("Returns the coins in the bank.", due -> {
            PrizePurses x = new PrizePurses();
            due.is("at first", x.bank(), 500);
            x.build(0, TEA, 9, true);
            due.is("less a stall and a roof", x.bank(), 450);
            x.fund(0, 99);
            due.is("less what a stall gets", x.bank(), 351);
            x.restock(0, 3, 0, 2);
            x.come(9, 0, 0);
            x.pass(1);
            due.is("whatever stalls and children do", x.bank(), 351);
            x.collect(0);
            due.is("and what is collected", x.bank(), 351 + 79 + 9);
            due.is("nothing", Scene.withBank(0).bank(), 0);
        });
        s.chapter("Promise 50");
        s.holds("Returns the coins that the town has got as rents so far.", due -> {
            PrizePurses x = Scene.rainy();
            x.build(11, TEA, 1, false);
            x.fund(0, 5);
            int[] towns = {0, 2, 4, 5, 5};
            for (int day = 0; day < 5; day++) {
                due.is("town on " + day, x.town(), towns[day]);
                x.pass(40);
            }
            x.pullDown(0);
            due.is("behind the end of the stall", x.town(), 5);
        });
        s.chapter("Promise 51");
        s.holds("Returns all coins that were ever at the fair: 500,", due -> {
            PrizePurses x = new PrizePurses();
            due.is("at first", x.allCoins(), 500);
            x.build(0, TEA, 9, true);
            x.fund(0, 99);
            x.restock(0, 3, 3, 9);
            x.pullDown(0);
            due.is("whatever is spent", x.allCoins(), 500);
        });
        s.holds("and those that children brought.", due -> {
            PrizePurses x = Scene.quiet();
            x.come(99, 0, 0);
            x.come(0, 0, 0);
            x.come(1, 0, 0);
            due.is("those of three", x.allCoins(), 600);
            x.pass(8);
            due.is("and of one by itself", x.allCoins(), 600 + 5 + 21);
            x.pass(31);
            due.is("those at home, too", x.allCoins(), 600 + 26 + 8 + 15 + 22 + 29 + 11 + 18 + 25);
        });
        s.chapter("Promise 52");
        s.holds("Returns the same, told by places: in the bank,", due -> {
            PrizePurses x = new PrizePurses();
            due.is("all are there", x.coinsByPlaces(), 500);
        });
        s.holds("in purses of stalls", due -> {
            PrizePurses x = Scene.withBank(0);
            due.is("470 are there", x.coinsByPlaces(), 500);
            x.turnStall(0);
            due.is("in a closed one, too", x.coinsByPlaces(), 500);
        });
        s.holds("and children", due -> {
            PrizePurses x = Scene.quiet();
            x.come(99, 0, 0);
            x.come(33, 0, 0);
            due.is("132 are there", x.coinsByPlaces(), 632);
        });
        s.holds("(at home, too),", due -> {
            PrizePurses x = Scene.rainy();
            x.come(99, 0, 0);
            x.come(33, 0, 0);
            x.pass(40);
            due.is("132 are there", x.coinsByPlaces(), 632);
            x.come(50, 0, 0);
            due.is("182 are there", x.coinsByPlaces(), 682);
        });
        s.holds("with the town,", due -> {
            PrizePurses x = withRentDue(30);
            due.is("8 are there", x.coinsByPlaces(), 500);
            PrizePurses y = withRentDue(3);
            due.is("3 are there", y.coinsByPlaces(), 500);
        });
        s.holds("and spent for stalls and prizes.", due -> {
            PrizePurses x = new PrizePurses();
            x.build(0, TEA, 1, false);
            due.is("30 for a stall", x.coinsByPlaces(), 500);
            x.build(1, TEA, 1, true);
            due.is("50 with a roof", x.coinsByPlaces(), 500);
            x.fund(0, 40);
            for (int level = 0; level < 4; level++) {
                x.restock(0, level, 0, 2);
                due.is("and for prizes of level " + level, x.coinsByPlaces(), 500);
            }
            x.pullDown(0);
            due.is("though it is gone", x.coinsByPlaces(), 500);
        });
    }

    private static void takings(Sentences s) {
        s.chapter("Promise 53");
        s.holds("Returns the coins that children have spent so far, told by plays.", due -> {
            PrizePurses x = Scene.quiet();
            due.is("none", x.takings(), 0);
            x.build(0, TEA, 4, false);
            x.come(9, 0, 0);
            x.pass(1);
            due.is("4", x.takings(), 4);
            x.setPrice(0, 5);
            x.pass(1);
            due.is("and 5", x.takings(), 9);
            x.pullDown(0);
            due.is("at a stall that is gone", x.takings(), 9);
            x.build(1, TEA, 1, false);
            x.fund(0, 50);
            due.is("a fund is no taking", x.takings(), 9);
        });
        s.chapter("Promise 54");
        s.holds("Returns the same, told by children: what they brought, less what is in their purses.", due -> {
            PrizePurses x = Scene.quiet();
            due.is("none", x.takingsByChildren(), 0);
            x.come(9, 0, 0);
            x.come(99, 0, 0);
            due.is("none", x.takingsByChildren(), 0);
            x.build(0, TEA, 4, false);
            x.pass(1);
            due.is("4", x.takingsByChildren(), 4);
            x.pass(38);
            due.is("of those at home, too", x.takingsByChildren(), x.takings());
            due.is("more than 4", x.takingsByChildren() > 4, true);
            x.pullDown(0);
            due.is("at a stall that is gone", x.takingsByChildren(), x.takings());
        });
        s.chapter("Promise 55");
        s.holds("Returns the number of plays so far, at stalls that are still there and others.", due -> {
            PrizePurses x = Scene.quiet();
            due.is("none", x.plays(), 0);
            x.build(0, TEA, 1, false);
            x.build(1, TEA, 1, false);
            x.come(9, 0, 0);
            x.pass(4);
            due.is("two and one", x.plays(), 3);
            x.pullDown(0);
            due.is("one is gone", x.plays(), 3);
            x.pullDown(0);
            due.is("both are gone", x.plays(), 3);
            x.build(1, TEA, 1, false);
            x.pass(1);
            due.is("one more", x.plays(), 4);
        });
    }
}
