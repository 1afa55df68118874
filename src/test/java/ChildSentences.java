/** What the document says of children: terms, and the promises 9 and 33 to 44. */
final class ChildSentences {
    private static final int NONE = PrizePurses.NONE;
    private static final Class<IndexOutOfBoundsException> INDEX = IndexOutOfBoundsException.class;
    private static final Class<IllegalArgumentException> ARGUMENT = IllegalArgumentException.class;

    private ChildSentences() {
    }

    static void tell(Sentences s) {
        howManyCome(s);
        aChild(s);
        come(s);
        counts(s);
        purses(s);
        places(s);
        reasons(s);
        moods(s);
    }

    private static void howManyCome(Sentences s) {
        s.chapter("CHILDREN");
        s.holds("Children are numbered from 0 in the order in which they come;", due -> {
            PrizePurses x = new PrizePurses();
            due.is("the first", x.come(11, 0, 0), 0);
            due.is("the second", x.come(22, 0, 0), 1);
            x.pass(1);
            due.is("one by itself", x.children(), 3);
            due.is("the next", x.come(33, 0, 0), 3);
            x.pass(39);
            due.is("on another day", x.come(44, 0, 0), x.children() - 1);
            due.is("purse of 0", x.purseOf(0), 11);
            due.is("purse of 1", x.purseOf(1), 22);
            due.is("purse of 3", x.purseOf(3), 33);
        });
        s.holds("at most 200 ever come,", due -> {
            PrizePurses x = Scene.manyChildren(199);
            due.is("the last", x.come(5, 0, 0), 199);
            due.is("one more", Due.outcome(() -> x.come(5, 0, 0)), "IllegalStateException");
            due.is("children", x.children(), 200);
            x.pass(40);
            Scene.rain(x, 0);
            due.is("one more on a day when nobody is here", Due.outcome(() -> x.come(5, 0, 0)),
                    "IllegalStateException");
            due.is("one by itself", x.isChildDue(), false);
            x.pass(40);
            due.is("children", x.children(), 200);
            PrizePurses y = Scene.manyChildren(199);
            y.pass(40);
            Scene.rain(y, 0);
            due.is("the last by itself", y.isChildDue(), true);
            y.pass(40);
            due.is("children", y.children(), 200);
        });
        s.holds("and at most 40 are at the fair at a time.", due -> {
            PrizePurses x = Scene.forty();
            due.is("the 41st", Due.outcome(() -> x.come(5, 0, 0)), "IllegalStateException");
            x.pass(1);
            due.is("none by itself", x.children(), 40);
            x.pass(22);
            due.is("all have gone home", x.atFair(), 0);
            for (int child = 40; child < 80; child++) {
                due.is("as many again", x.come(5, 0, 0), child);
            }
            due.is("the 41st again", Due.outcome(() -> x.come(5, 0, 0)), "IllegalStateException");
            due.is("at the fair", x.atFair(), 40);
        });
    }

    private static void aChild(Sentences s) {
        s.holds("A child has a purse (0 to 99 coins as it comes),", due -> {
            PrizePurses x = Scene.quiet();
            x.come(0, 0, 0);
            x.come(99, 0, 0);
            due.is("none", x.purseOf(0), 0);
            due.is("99", x.purseOf(1), 99);
            for (int wrong : new int[] {-1, 100}) {
                due.noArgument("purse " + wrong, Scene::busy, y -> y.come(wrong, 0, 0));
            }
        });
        s.holds("a mood of 0 to 100", due -> {
            PrizePurses x = Scene.stocked(PrizePurses.DIP, 1, false, 1, 1);
            x.come(9, PrizePurses.DIP, 1);
            x.pass(2);
            due.is("60 and twice 30 more", x.moodOf(0), 100);
            PrizePurses y = Scene.rain(new PrizePurses(), 7);
            y.come(0, 0, 0);
            y.pass(1);
            Scene.rain(y, 9);
            y.pass(14);
            due.is("60 less 3 and 14 times 4", y.moodOf(0), 1);
            y.pass(1);
            due.is("less 4", y.moodOf(0), 0);
        });
        s.holds("(60 as it comes),", due -> {
            PrizePurses x = Scene.busy();
            x.come(50, 1, 1);
            due.is("mood", x.moodOf(3), 60);
            PrizePurses y = new PrizePurses();
            y.pass(1);
            due.is("mood of one by itself", y.moodOf(0), 60);
        });
        s.holds("a favourite kind,", due -> {
            for (int favourite = 0; favourite < 5; favourite++) {
                PrizePurses x = sulker(favourite);
                for (int kind = 0; kind < 4; kind++) {
                    x.build(6, kind, 1, false);
                    due.is("reason at " + kind, x.whyNoPlay(0), kind == favourite ? 0 : PrizePurses.SULKING);
                    x.pullDown(0);
                }
            }
        });
        s.holds("a favourite colour,", due -> {
            for (int favourite = 0; favourite < 4; favourite++) {
                PrizePurses x = Scene.stocked(PrizePurses.DIP, 1, false, 0, 1, 2, 3);
                x.come(1, 0, favourite);
                x.pass(1);
                for (int colour = 0; colour < 4; colour++) {
                    due.is("left of " + colour, x.prizesOn(0, 0, colour), colour == favourite ? 0 : 1);
                }
            }
        });
        s.holds("a pitch (0 as it comes),", due -> {
            PrizePurses x = Scene.busy();
            x.come(50, 1, 1);
            due.is("pitch", x.placeOf(3), 0);
            due.is("who is on it", x.crowdOn(0), 2);
        });
        s.holds("a direction (outward as it comes, or homeward),", due -> {
            PrizePurses x = Scene.quiet();
            x.come(0, 1, 1);
            due.is("homeward as it comes", x.isHomeward(0), false);
            x.pass(11);
            due.is("homeward at the last pitch", x.isHomeward(0), false);
            x.pass(1);
            due.is("homeward behind it", x.isHomeward(0), true);
        });
        s.holds("and a number of plays here (0 as it comes).", due -> {
            PrizePurses x = Scene.quiet();
            x.build(0, PrizePurses.TEA, 1, false);
            x.takeSnapshot();
            x.come(9, 0, 0);
            due.is("reason at 0", x.whyNoPlay(0), 0);
            x.pass(1);
            due.is("reason at 1", x.whyNoPlay(0), 0);
            x.pass(1);
            due.is("reason at 2", x.whyNoPlay(0), PrizePurses.ENOUGH);
            x.come(9, 0, 0);
            due.is("reason of the next child", x.whyNoPlay(1), 0);
            x.restoreSnapshot();
            due.is("nobody has come", x.children(), 0);
            x.come(9, 0, 0);
            due.is("reason of the one who comes instead", x.whyNoPlay(0), 0);
        });
        s.holds("A child who has gone home stays at home.", due -> {
            PrizePurses x = Scene.quiet();
            x.come(50, PrizePurses.TEA, 0);
            x.pass(23);
            x.build(0, PrizePurses.TEA, 1, true);
            for (int round = 24; round < 90; round++) {
                due.is("place in round " + round, x.placeOf(0), NONE);
                x.pass(1);
            }
            due.is("purse", x.purseOf(0), 50);
        });
    }

    /** Child 0 on pitch 6 with 9 coins and a mood of 49; it loses none in the next round, round 7. */
    static PrizePurses sulker(int favourite) {
        PrizePurses x = content(favourite);
        x.setRain(1, 3);
        x.pass(1);
        x.setRain(1, 1);
        return x;
    }

    /** Child 0 on pitch 5 with 9 coins and a mood of 50; it loses none in the next round, round 6. */
    static PrizePurses content(int favourite) {
        PrizePurses x = Scene.quiet();
        x.come(9, favourite, 0);
        x.setRain(0, 4);
        x.setRain(1, 4);
        x.pass(5);
        x.setRain(1, 1);
        return x;
    }

    private static void come(Sentences s) {
        s.chapter("Promise 9");
        s.holds("Lets a child come.", due -> {
            PrizePurses x = Scene.busy();
            x.come(33, PrizePurses.DARTS, 2);
            due.is("children", x.children(), 4);
            due.is("at the fair", x.atFair(), 4);
            due.is("place", x.placeOf(3), 0);
            due.is("purse", x.purseOf(3), 33);
            due.is("all coins", x.allCoins(), 500 + 27 + 33);
        });
        s.action(x -> x.come(9, 0, 0));
        s.takes("`purse`: 0 to 99", 0, 99, Scene::busy, (x, purse) -> x.come(purse, 0, 0));
        s.holds("`kind`: its favourite kind", due -> {
            for (int kind = 0; kind < 5; kind++) {
                PrizePurses x = sulker(kind);
                x.build(6, kind, 1, false);
                due.is("reason at its favourite " + kind, x.whyNoPlay(0), 0);
                x.pullDown(0);
                x.build(6, kind == 2 ? 3 : 2, 1, false);
                due.is("reason at another than " + kind, x.whyNoPlay(0), PrizePurses.SULKING);
            }
        });
        s.holds("`colour`: its favourite colour", due -> {
            for (int colour = 0; colour < 4; colour++) {
                PrizePurses x = Scene.stocked(PrizePurses.DIP, 1, false, colour);
                x.come(1, 0, colour);
                x.pass(1);
                due.is("mood with colour " + colour, x.moodOf(0), 90);
                PrizePurses y = Scene.stocked(PrizePurses.DIP, 1, false, colour);
                y.come(1, 0, 3 - colour);
                y.pass(1);
                due.is("mood without it", y.moodOf(0), 80);
            }
        });
        s.holds("Returns the number of the child.", due -> {
            PrizePurses x = new PrizePurses();
            for (int child = 0; child < 40; child++) {
                due.is("number", x.come(0, 0, 0), child);
            }
            due.is("of the last of all", Scene.manyChildren(199).come(0, 0, 0), 199);
        });
        s.holds("Throws `IndexOutOfBoundsException` if there is no such kind or colour", due -> {
            Sentences.refuses(due, "kind ", INDEX, Scene::busy, (x, kind) -> x.come(0, kind, 0), -1, 5);
            Sentences.refuses(due, "colour ", INDEX, Scene::busy, (x, colour) -> x.come(0, 0, colour), -1, 4);
        });
        s.refuses("Throws `IllegalArgumentException` if purse is out of range", ARGUMENT, Scene::busy,
                (x, purse) -> x.come(purse, 0, 0), -1, 100);
        s.holds("Throws `IllegalStateException` if 200 have come,", due -> {
            PrizePurses x = Scene.twoHundred();
            x.pass(40);
            due.is("the 201st", Due.outcome(() -> x.come(0, 0, 0)), "IllegalStateException");
            due.is("children", x.children(), 200);
            due.is("the 200th", Scene.manyChildren(199).come(0, 0, 0), 199);
        });
        s.holds("or 40 are at the fair", due -> {
            PrizePurses x = Scene.forty();
            due.is("the 41st", Due.outcome(() -> x.come(0, 0, 0)), "IllegalStateException");
            due.is("children", x.children(), 40);
            due.is("recorded states", x.recordedStates(), 4);
            x.undo();
            due.is("the 40th", x.come(0, 0, 0), 39);
        });
    }

    private static void counts(Sentences s) {
        s.chapter("Promise 33");
        s.holds("Returns the number of children who have come so far.", due -> {
            PrizePurses x = new PrizePurses();
            due.is("none", x.children(), 0);
            x.come(0, 0, 0);
            due.is("one", x.children(), 1);
            x.pass(1);
            due.is("and one by itself", x.children(), 2);
            x.pass(39);
            due.is("those at home, too", x.children(), 11);
            due.is("all", Scene.twoHundred().children(), 200);
        });
        s.chapter("Promise 34");
        s.holds("Returns the number of children at the fair.", due -> {
            PrizePurses x = Scene.quiet();
            due.is("none", x.atFair(), 0);
            x.come(0, 0, 0);
            x.come(0, 0, 0);
            due.is("two", x.atFair(), 2);
            Scene.rain(x, 9);
            x.pass(14);
            due.is("two yet", x.atFair(), 2);
            x.come(0, 0, 0);
            x.pass(1);
            due.is("two have gone home", x.atFair(), 1);
            x.pass(24);
            due.is("nobody on a new day", x.atFair(), 0);
            due.is("forty", Scene.forty().atFair(), 40);
        });
        s.chapter("Promise 35");
        s.holds("Tells whether a child is at the fair.", due -> {
            PrizePurses x = Scene.busy();
            due.is("here", x.isAtFair(0), true);
        });
        s.child((x, child) -> x.isAtFair(child) ? 1 : 0);
        s.holds("Returns whether it is.", due -> {
            PrizePurses x = Scene.quiet();
            x.come(0, 0, 0);
            x.pass(2);
            x.come(0, 0, 0);
            x.pass(20);
            due.is("back at the gate", x.isAtFair(0), true);
            x.pass(1);
            due.is("out of it", x.isAtFair(0), false);
            due.is("the other", x.isAtFair(1), true);
        });
        s.noChild((x, child) -> x.isAtFair(child) ? 1 : 0);
    }

    private static void purses(Sentences s) {
        s.chapter("Promise 36");
        s.holds("Returns the coins in the purse of a child,", due -> {
            PrizePurses x = Scene.busy();
            due.is("child 0", x.purseOf(0), 20);
            due.is("child 1", x.purseOf(1), 0);
            due.is("child 2", x.purseOf(2), 7);
        });
        s.holds("also if it has gone home.", due -> {
            PrizePurses x = Scene.quiet();
            x.build(0, PrizePurses.TEA, 7, false);
            x.come(17, 0, 0);
            x.come(18, 0, 0);
            x.pass(39);
            due.is("gone", x.isAtFair(0) || x.isAtFair(1), false);
            due.is("child 0, who played twice", x.purseOf(0), 3);
            due.is("child 1, who played when it came back", x.purseOf(1), 4);
        });
        s.child((x, child) -> x.purseOf(child));
        s.holds("Returns the coins.", due -> {
            PrizePurses x = Scene.quiet();
            x.build(0, PrizePurses.TEA, 4, false);
            x.come(8, 0, 0);
            due.is("as it came", x.purseOf(0), 8);
            x.pass(1);
            due.is("less a price", x.purseOf(0), 4);
            x.pass(1);
            due.is("nothing", x.purseOf(0), 0);
        });
        s.noChild((x, child) -> x.purseOf(child));
        s.chapter("Promise 37");
        s.holds("Returns the mood of a child,", due -> {
            PrizePurses x = Scene.busy();
            due.is("child 0, two rounds in a rain of 5", x.moodOf(0), 56);
            due.is("child 2, who has just come", x.moodOf(2), 60);
        });
        s.holds("also if it has gone home.", due -> {
            PrizePurses x = Scene.quiet();
            x.build(0, PrizePurses.TEA, 7, false);
            x.come(7, 0, 0);
            x.pass(39);
            due.is("gone", x.isAtFair(0), false);
            due.is("mood", x.moodOf(0), 75);
            PrizePurses y = Scene.rain(new PrizePurses(), 9);
            y.come(0, 0, 0);
            y.pass(40);
            due.is("gone for its mood", y.moodOf(0), 0);
        });
        s.child((x, child) -> x.moodOf(child));
        s.holds("Returns 0 to 100.", due -> {
            PrizePurses x = Scene.stocked(PrizePurses.DIP, 1, false, 1, 1);
            x.build(1, PrizePurses.TEA, 1, false);
            x.come(9, PrizePurses.DIP, 1);
            int[] moods = {60, 90, 100, 100, 100, 100};
            for (int mood : moods) {
                due.is("upward", x.moodOf(0), mood);
                x.pass(1);
            }
            PrizePurses y = Scene.rain(new PrizePurses(), 8);
            y.build(11, PrizePurses.DIP, 1, true);
            y.come(9, PrizePurses.DIP, 0);
            y.pass(11);
            for (int mood : new int[] {16, 8, 0, 0}) {
                due.is("downward", y.moodOf(0), mood);
                y.pass(1);
            }
        });
        s.noChild((x, child) -> x.moodOf(child));
    }

    private static void places(Sentences s) {
        s.chapter("Promise 38");
        s.holds("Returns the pitch of a child.", due -> {
            PrizePurses x = Scene.busy();
            due.is("child 0", x.placeOf(0), 2);
            due.is("child 2", x.placeOf(2), 0);
        });
        s.child((x, child) -> x.placeOf(child));
        s.holds("Returns the pitch;", due -> {
            PrizePurses x = Scene.quiet();
            x.come(0, 0, 0);
            for (int round = 0; round < 23; round++) {
                due.is("behind " + round + " rounds", x.placeOf(0), round < 12 ? round : 22 - round);
                x.pass(1);
            }
        });
        s.holds("NONE if it has gone home.", due -> {
            PrizePurses x = Scene.quiet();
            x.come(0, 0, 0);
            x.pass(23);
            due.is("through the gate", x.placeOf(0), -1);
            PrizePurses y = Scene.rain(new PrizePurses(), 9);
            y.come(0, 0, 0);
            y.pass(15);
            due.is("for its mood", y.placeOf(0), -1);
            PrizePurses z = Scene.rainy();
            z.pass(39);
            z.come(0, 0, 0);
            z.pass(1);
            due.is("at the end of the day", z.placeOf(0), -1);
        });
        s.noChild((x, child) -> x.placeOf(child));
        s.chapter("Promise 39");
        s.holds("Tells whether a child goes homeward.", due -> {
            PrizePurses x = Scene.busy();
            due.is("child 0", x.isHomeward(0), false);
        });
        s.child((x, child) -> x.isHomeward(child) ? 1 : 0);
        s.holds("Returns whether it does;", due -> {
            PrizePurses x = Scene.quiet();
            x.come(0, 0, 0);
            for (int round = 0; round < 23; round++) {
                due.is("behind " + round + " rounds", x.isHomeward(0), round > 11);
                x.pass(1);
            }
        });
        s.holds("true if it has gone home.", due -> {
            PrizePurses x = Scene.quiet();
            x.come(0, 0, 0);
            x.pass(23);
            due.is("through the gate", x.isHomeward(0), true);
            PrizePurses y = Scene.rain(new PrizePurses(), 9);
            y.pass(39);
            y.come(0, 0, 0);
            due.is("outward", y.isHomeward(0), false);
            y.pass(1);
            due.is("at the end of the day, from the gate", y.isHomeward(0), true);
            PrizePurses z = Scene.rain(new PrizePurses(), 9);
            z.build(0, PrizePurses.DIP, 1, false);
            z.build(1, PrizePurses.DIP, 1, false);
            z.build(2, PrizePurses.DIP, 1, false);
            z.come(9, PrizePurses.DIP, 0);
            z.pass(9);
            due.is("gone for its mood, on its way outward", z.isAtFair(0), false);
            due.is("homeward", z.isHomeward(0), true);
        });
        s.noChild((x, child) -> x.isHomeward(child) ? 1 : 0);
        s.chapter("Promise 40");
        s.holds("Returns the number of prizes that a child has won.", due -> {
            PrizePurses x = Scene.stocked(PrizePurses.DIP, 1, false, 0, 0, 0, 0);
            x.come(1, 0, 0);
            x.pass(1);
            x.come(9, 0, 0);
            x.pass(1);
            due.is("child 0", x.prizesOf(0), 1);
            due.is("child 1", x.prizesOf(1), 1);
            x.pass(1);
            due.is("child 0, who has moved on", x.prizesOf(0), 1);
            due.is("child 1", x.prizesOf(1), 2);
        });
        s.child((x, child) -> x.prizesOf(child));
        s.holds("Returns the number of prizes.", due -> {
            PrizePurses x = Scene.stocked(PrizePurses.DIP, 1, false, 0);
            x.come(9, 0, 0);
            due.is("as it comes", x.prizesOf(0), 0);
            x.pass(1);
            due.is("one", x.prizesOf(0), 1);
            x.pass(1);
            due.is("no second: the shelf is empty", x.prizesOf(0), 1);
            x.pass(37);
            due.is("at home", x.prizesOf(0), 1);
        });
        s.noChild((x, child) -> x.prizesOf(child));
    }

    private static void reasons(Sentences s) {
        s.chapter("Promise 41");
        s.holds("Tells why a child would not play on its pitch,", due -> {
            PrizePurses x = Scene.busy();
            due.is("child 0, no stall on 2", x.whyNoPlay(0), PrizePurses.NO_STALL);
            x.pass(1);
            due.is("child 0, with 20 coins at DIP for 4", x.whyNoPlay(0), 0);
            due.is("child 1, without a coin there", x.whyNoPlay(1), PrizePurses.TOO_DEAR);
        });
        s.holds("whatever other children do,", due -> {
            PrizePurses x = Scene.quiet();
            x.build(0, PrizePurses.TEA, 1, false);
            x.come(9, 0, 0);
            x.come(9, 0, 0);
            due.is("the one who will play", x.whyNoPlay(0), 0);
            due.is("the one who will find it taken", x.whyNoPlay(1), 0);
            x.pass(1);
            x.come(9, 0, 0);
            due.is("once more, behind a play", x.whyNoPlay(2), 0);
        });
        s.holds("with its purse and mood as they are.", due -> {
            PrizePurses x = content(PrizePurses.TEA);
            x.setRain(1, 9);
            x.build(5, PrizePurses.HOOPLA, 9, false);
            due.is("mood 50, though the rain will take 4", x.whyNoPlay(0), 0);
            due.is("then it does not play", x.pass(1), 0);
            PrizePurses y = content(PrizePurses.TEA);
            y.build(5, PrizePurses.TEA, 9, false);
            due.is("9 coins for 9", y.whyNoPlay(0), 0);
        });
        s.child((x, child) -> x.whyNoPlay(child));
        s.holds("Returns the first reason that applies, in the order GONE,", due -> {
            PrizePurses x = sulker(PrizePurses.DARTS);
            x.build(6, PrizePurses.HOOPLA, 9, false);
            x.pass(32);
            due.is("gone, and no stall, and all else", x.whyNoPlay(0), 1);
        });
        s.holds("NO_STALL,", due -> {
            PrizePurses x = Scene.quiet();
            x.come(0, 0, 0);
            due.is("no stall", x.whyNoPlay(0), 2);
            x.build(0, 0, 1, false);
            x.turnStall(0);
            due.is("a closed one, which would be too dear", x.whyNoPlay(0), 2);
            PrizePurses y = enough();
            y.turnStall(0);
            due.is("a closed one, with enough plays", y.whyNoPlay(0), 2);
            PrizePurses z = sulker(PrizePurses.DARTS);
            z.build(6, PrizePurses.HOOPLA, 1, false);
            z.turnStall(0);
            due.is("a closed one, of a kind it does not want", z.whyNoPlay(0), 2);
        });
        s.holds("TOO_DEAR,", due -> {
            PrizePurses x = Scene.quiet();
            x.come(4, 0, 0);
            x.build(0, 0, 5, false);
            due.is("5 of 4 coins", x.whyNoPlay(0), 3);
            PrizePurses y = enough();
            y.setPrice(0, 8);
            due.is("8 of 7 coins, with enough plays", y.whyNoPlay(0), 3);
            PrizePurses z = Scene.quiet();
            z.come(0, PrizePurses.DARTS, 0);
            Scene.rain(z, 9);
            z.pass(4);
            z.build(4, PrizePurses.HOOPLA, 1, false);
            due.is("1 of no coins, with a mood of 44", z.whyNoPlay(0), 3);
        });
        s.holds("ENOUGH,", due -> {
            PrizePurses x = enough();
            due.is("two plays", x.whyNoPlay(0), 4);
            due.is("and a mood of 44", x.moodOf(0), 44);
            x.pullDown(0);
            x.build(0, PrizePurses.DARTS, 1, false);
            due.is("at a kind it does not want", x.whyNoPlay(0), 4);
        });
        s.holds("SULKING;", due -> {
            PrizePurses x = sulker(PrizePurses.DARTS);
            x.build(6, PrizePurses.HOOPLA, 9, false);
            due.is("a mood of 49", x.whyNoPlay(0), 5);
        });
        s.holds("0 if none does", due -> {
            PrizePurses x = sulker(PrizePurses.DARTS);
            x.build(6, PrizePurses.DARTS, 9, false);
            due.is("its favourite kind", x.whyNoPlay(0), 0);
            x.pullDown(0);
            x.build(6, PrizePurses.TEA, 9, false);
            due.is("TEA", x.whyNoPlay(0), 0);
            PrizePurses y = content(PrizePurses.DARTS);
            y.build(5, PrizePurses.HOOPLA, 9, false);
            due.is("a mood of 50", y.whyNoPlay(0), 0);
        });
        s.holds("(that a child of mood 0 goes home is none).", due -> {
            PrizePurses x = Scene.rain(new PrizePurses(), 8);
            x.build(11, PrizePurses.DIP, 1, true);
            x.come(9, PrizePurses.DIP, 0);
            x.pass(13);
            due.is("mood", x.moodOf(0), 0);
            due.is("at the fair", x.isAtFair(0), true);
            due.is("reason", x.whyNoPlay(0), PrizePurses.ENOUGH);
            PrizePurses y = Scene.rain(new PrizePurses(), 8);
            y.come(9, PrizePurses.DIP, 0);
            y.pass(13);
            y.build(9, PrizePurses.DIP, 1, true);
            y.pass(1);
            due.is("a mood of 0 behind one play", y.moodOf(0), 0);
            due.is("no reason", y.whyNoPlay(0), 0);
            y.pass(1);
            due.is("yet it goes home", y.isAtFair(0), false);
            due.is("without a second play", y.playsOf(0), 1);
        });
        s.noChild((x, child) -> x.whyNoPlay(child));
    }

    /** Child 0 with 7 coins and two plays at the HOOPLA on its pitch, and a mood of 44. */
    private static PrizePurses enough() {
        PrizePurses x = Scene.quiet();
        x.build(0, PrizePurses.HOOPLA, 1, false);
        x.come(9, PrizePurses.HOOPLA, 0);
        x.pass(2);
        return x;
    }

    private static void moods(Sentences s) {
        s.chapter("Promise 42");
        s.holds("Returns the child at the fair with the greatest mood,", due -> {
            PrizePurses x = Scene.quiet();
            x.build(0, PrizePurses.TEA, 1, false);
            x.come(0, 0, 0);
            x.come(1, 0, 0);
            x.come(0, 0, 0);
            x.pass(1);
            due.is("the one who had tea", x.happiest(), 1);
            x.come(1, 0, 0);
            x.come(2, 0, 0);
            x.pass(1);
            due.is("two had tea", x.happiest(), 1);
            PrizePurses y = Scene.quiet();
            y.build(0, PrizePurses.TEA, 1, false);
            y.come(1, 0, 0);
            y.pass(3);
            y.pullDown(0);
            y.come(0, 0, 0);
            y.pass(21);
            due.is("who had tea is at home", y.isAtFair(0), false);
            due.is("another", y.happiest(), 1);
        });
        s.holds("of several the one with the least number;", due -> {
            PrizePurses x = Scene.forty();
            due.is("of forty", x.happiest(), 0);
            PrizePurses y = Scene.quiet();
            y.build(0, PrizePurses.HOOPLA, 1, false);
            y.come(1, 0, 0);
            y.come(0, 0, 0);
            y.come(0, 0, 0);
            y.pass(1);
            due.is("of two who did not lose", y.happiest(), 1);
        });
        s.holds("NONE if there is none.", due -> {
            due.is("nobody has come", new PrizePurses().happiest(), -1);
            PrizePurses x = Scene.rainy();
            x.come(0, 0, 0);
            x.pass(40);
            due.is("all have gone home", x.happiest(), -1);
            PrizePurses y = Scene.rain(new PrizePurses(), 8);
            y.come(9, PrizePurses.DIP, 0);
            y.pass(13);
            y.build(9, PrizePurses.DIP, 1, true);
            y.pass(1);
            due.is("a mood of 0 is enough", y.happiest(), 0);
        });
        s.chapter("Promise 43");
        s.holds("Returns the number of children at the fair whose mood is below 50.", due -> {
            due.is("a new object", new PrizePurses().sulkers(), 0);
            PrizePurses x = content(0);
            due.is("a mood of 50", x.sulkers(), 0);
            PrizePurses y = sulker(0);
            due.is("a mood of 49", y.sulkers(), 1);
            y.come(0, 0, 0);
            due.is("and one of 60", y.sulkers(), 1);
            PrizePurses z = Scene.rain(new PrizePurses(), 9);
            z.come(0, 0, 0);
            z.come(0, 0, 0);
            z.pass(3);
            due.is("two of 48", z.sulkers(), 2);
            PrizePurses w = Scene.quiet();
            w.build(0, PrizePurses.HOOPLA, 1, false);
            w.come(2, PrizePurses.HOOPLA, 0);
            w.pass(2);
            due.is("a mood of 44 at the gate", w.sulkers(), 1);
            w.pullDown(0);
            w.pass(23);
            due.is("a mood of 44 at home, on the same day", w.sulkers(), 0);
            z.pass(37);
            due.is("at home", z.sulkers(), 0);
        });
        s.chapter("Promise 44");
        s.holds("Returns the number of children on a pitch.", due -> {
            PrizePurses x = Scene.busy();
            due.is("pitch 2", x.crowdOn(2), 2);
            due.is("pitch 0", x.crowdOn(0), 1);
        });
        s.takes("`pitch`: 0 to 11", 0, 11, Scene::busy, (x, pitch) -> x.crowdOn(pitch));
        s.holds("Returns the number of children.", due -> {
            PrizePurses x = Scene.forty();
            for (int round = 0; round < 23; round++) {
                int place = round < 12 ? round : 22 - round;
                for (int pitch = 0; pitch < 12; pitch++) {
                    due.is("on " + pitch + " behind " + round, x.crowdOn(pitch), pitch == place ? 40 : 0);
                }
                x.pass(1);
            }
            due.is("at home", x.crowdOn(0), 0);
        });
        s.refuses("Throws `IndexOutOfBoundsException` if there is no such pitch", INDEX, Scene::busy,
                (x, pitch) -> x.crowdOn(pitch), -1, 12);
    }
}
