/** What the document says of undo, exceptions and constants: terms, and the promises 17 to 19 and 59. */
final class UndoSentences {
    private static final String STATE = "IllegalStateException";
    private static final Class<IndexOutOfBoundsException> INDEX = IndexOutOfBoundsException.class;
    private static final Class<IllegalArgumentException> ARGUMENT = IllegalArgumentException.class;

    /** Each action once, on a busy fair; what it does is told elsewhere. */
    private static final Due.CallOn[] ACTIONS = {
        x -> x.build(0, 0, 1, false), x -> x.pullDown(0), x -> x.setPrice(0, 4), x -> x.turnStall(0) ? 1 : 0,
        x -> x.restock(0, 0, 0, 1), x -> x.fund(0, 1), x -> x.collect(0), x -> x.come(0, 0, 0),
        x -> x.setRain(0, 5), x -> x.pass(1), PrizePurses::carryOut, PrizePurses::restoreSnapshot,
    };

    /** Calls that are no actions, on a busy fair. */
    private static final Due.CallOn[] OTHERS = {
        x -> x.type(';'), PrizePurses::clearText, PrizePurses::textError, PrizePurses::takeSnapshot,
        PrizePurses::takingsToday, x -> x.homeIn(0), x -> x.bestPitch(0, 1), PrizePurses::happiest,
        x -> x.whyNoPlay(0), x -> x.isChildDue() ? 1 : 0, PrizePurses::recordedStates,
    };

    private UndoSentences() {
    }

    static void tell(Sentences s) {
        recording(s);
        theState(s);
        exceptions(s);
        noSuch(s);
        constants(s);
        undo(s);
        takeSnapshot(s);
        restoreSnapshot(s);
        recordedStates(s);
    }

    private static void recording(Sentences s) {
        s.chapter("UNDO");
        s.holds("Each successful call of a method that is described as an action first records the current state;",
                due -> {
            for (int action = 0; action < ACTIONS.length; action++) {
                PrizePurses x = Scene.busy();
                ACTIONS[action].answer(x);
                due.is("states behind action " + action, x.recordedStates(), 3);
                x.undo();
                due.is("the state before action " + action, Answers.of(x), Answers.of(Scene.busy()));
            }
            for (int other = 0; other < OTHERS.length; other++) {
                PrizePurses x = Scene.busy();
                OTHERS[other].answer(x);
                due.is("states behind other call " + other, x.recordedStates(), 2);
            }
            PrizePurses y = Scene.busy();
            due.is("a call that fails", Due.outcome(() -> y.setPrice(0, 0)), "IllegalArgumentException");
            due.is("states behind it", y.recordedStates(), 2);
        });
        s.holds("only the latest 4 recorded states are kept.", due -> {
            for (int actions = 0; actions <= 13; actions++) {
                PrizePurses x = new PrizePurses();
                for (int action = 1; action <= actions; action++) {
                    x.setRain(action % 10, action % 9 + 1);
                }
                int kept = Math.min(4, actions);
                due.is("states", x.recordedStates(), kept);
                for (int left = kept - 1; left >= 0; left--) {
                    due.is("undo", x.undo(), left);
                    PrizePurses y = new PrizePurses();
                    for (int action = 1; action <= actions - kept + left; action++) {
                        y.setRain(action % 10, action % 9 + 1);
                    }
                    for (int hour = 0; hour < 10; hour++) {
                        due.is("rain of " + hour, x.rainIn(hour), y.rainIn(hour));
                    }
                }
                due.is("one undo more", Due.outcome(x::undo), STATE);
            }
        });
    }

    private static void theState(Sentences s) {
        s.holds("The state consists of everything", due -> {
            PrizePurses x = Scene.busy();
            x.takeSnapshot();
            changeAll(x);
            due.is("a change", Answers.few(x).equals(Answers.few(Scene.busy())), false);
            for (int i = 0; i < 4; i++) {
                x.undo();
            }
            due.is("undone, all is as it was", bare(x), bare(Scene.busy()));
            PrizePurses y = Scene.busy();
            y.takeSnapshot();
            changeAll(y);
            y.pass(40);
            y.collect(0);
            y.restoreSnapshot();
            due.is("restored, all is as it was", bare(y), bare(Scene.busy()));
            y.pass(40);
            PrizePurses u = Scene.busy();
            u.pass(40);
            due.is("and goes on as it would", bare(y), bare(u));
            PrizePurses z = Scene.stocked(PrizePurses.COCONUTS, 2, false, 30);
            z.takeSnapshot();
            String coconuts = bare(z);
            z.pullDown(0);
            z.build(1, PrizePurses.DIP, 3, true);
            z.restoreSnapshot();
            due.is("the kind of a stall is as it was", bare(z), coconuts);
            PrizePurses w = Scene.quiet();
            w.build(0, PrizePurses.TEA, 1, false);
            w.come(9, 0, 0);
            w.pass(2);
            w.pass(1);
            w.undo();
            due.is("the plays here are as they were", w.whyNoPlay(0), PrizePurses.ENOUGH);
        });
        s.holds("except the order text,", due -> {
            PrizePurses x = Scene.typed(new PrizePurses(), "p4");
            x.setRain(0, 1);
            x.takeSnapshot();
            x.type('0');
            x.undo();
            due.is("undo keeps it", x.textError(), PrizePurses.NONE);
            due.is("carryOut", x.carryOut(), 1);
            due.is("day", x.day(), 1);
            x.restoreSnapshot();
            due.is("restoreSnapshot keeps it", x.clearText(), 3);
        });
        s.holds("the recorded states", due -> {
            PrizePurses x = new PrizePurses();
            x.setRain(0, 1);
            x.takeSnapshot();
            x.setRain(0, 2);
            x.setRain(0, 3);
            x.restoreSnapshot();
            due.is("the snapshot has none of them", x.recordedStates(), 4);
            due.is("undo", x.undo(), 3);
            due.is("rain", x.rainIn(0), 3);
            due.is("undo", x.undo(), 2);
            due.is("undo", x.undo(), 1);
            due.is("rain", x.rainIn(0), 1);
        });
        s.holds("and the snapshot.", due -> {
            PrizePurses x = new PrizePurses();
            x.setRain(0, 1);
            x.setRain(0, 2);
            x.takeSnapshot();
            x.undo();
            x.undo();
            due.is("rain", x.rainIn(0), 0);
            due.is("undo keeps it", x.restoreSnapshot(), 500);
            due.is("rain", x.rainIn(0), 2);
            x.setRain(0, 3);
            x.restoreSnapshot();
            due.is("it keeps itself", x.rainIn(0), 2);
        });
    }

    /** All answers but the number of recorded states. */
    private static String bare(PrizePurses x) {
        return Answers.of(x).replaceAll("records \\d", "");
    }

    /** Four actions that leave nothing as it was. */
    private static void changeAll(PrizePurses x) {
        x.pullDown(0);
        x.come(44, 1, 1);
        Scene.typed(x, "b0c9^;f0+40;r0:10*9;f1+7;w0=9;w4=8;w9=7;b10t5;c9h3;p39").carryOut();
        x.pass(40);
    }

    private static void exceptions(Sentences s) {
        s.chapter("EXCEPTIONS");
        s.holds("If several exceptions apply to a call, the one that is listed first is thrown.", due -> {
            due.noIndex("build: pitch, price", Scene::sixStalls, x -> x.build(12, 0, 0, false));
            due.noIndex("build: kind, price, state", Scene::sixStalls, x -> x.build(0, 5, 10, false));
            due.noIndex("build: kind, state", Scene::sixStalls, x -> x.build(0, -1, 1, true));
            due.noArgument("build: price, state", Scene::sixStalls, x -> x.build(0, 0, 0, false));
            due.noArgument("build: price, coins", () -> Scene.withBank(0), x -> x.build(0, 0, 10, false));
            due.noIndex("setPrice: stall, price", Scene::sixStalls, x -> x.setPrice(6, 0));
            due.noIndex("restock: stall, many", Scene::sixStalls, x -> x.restock(6, 0, 0, 0));
            due.noIndex("restock: level, many", Scene::sixStalls, x -> x.restock(0, 4, 0, 41));
            due.noIndex("restock: colour, many", Scene::sixStalls, x -> x.restock(0, 0, 4, 0));
            due.noIndex("restock: level, state", Scene::sixStalls, x -> x.restock(0, -1, 0, 40));
            due.noIndex("restock: colour, state", Scene::sixStalls, x -> x.restock(0, 0, -1, 40));
            due.noArgument("restock: many, state", Scene::sixStalls, x -> x.restock(0, 3, 0, 41));
            due.noIndex("fund: stall, coins", Scene::sixStalls, x -> x.fund(-1, 0));
            due.noIndex("fund: stall, state", () -> Scene.withBank(0), x -> x.fund(1, 99));
            due.noArgument("fund: coins, state", () -> Scene.withBank(0), x -> x.fund(0, 100));
            due.noIndex("setRain: hour, rain", Scene::busy, x -> x.setRain(10, 10));
            due.noIndex("bestPitch: kind, price", Scene::busy, x -> x.bestPitch(5, 0));
            due.noIndex("come: kind, purse", Scene::busy, x -> x.come(100, 5, 0));
            due.noIndex("come: colour, purse", Scene::busy, x -> x.come(-1, 0, 4));
            PrizePurses full = Scene.forty();
            due.is("come: kind, state", Due.outcome(() -> full.come(9, 5, 0)), "IndexOutOfBoundsException");
            due.is("come: colour, state", Due.outcome(() -> full.come(9, 0, 4)), "IndexOutOfBoundsException");
            due.is("come: purse, state", Due.outcome(() -> full.come(100, 0, 0)), "IllegalArgumentException");
        });
        s.holds("A call that throws an exception changes nothing.", due -> {
            due.noState("build", Scene::sixStalls, x -> x.build(6, 0, 1, false));
            due.noArgument("setPrice", Scene::busy, x -> x.setPrice(0, 10));
            due.noIndex("pullDown", Scene::busy, x -> x.pullDown(3));
            due.noIndex("turnStall", Scene::busy, x -> x.turnStall(3) ? 1 : 0);
            due.noState("restock", Scene::busy, x -> x.restock(0, 0, 0, 11));
            due.noState("fund", () -> Scene.withBank(5), x -> x.fund(0, 6));
            due.noIndex("collect", Scene::busy, x -> x.collect(3));
            due.noArgument("come", Scene::busy, x -> x.come(100, 0, 0));
            due.noArgument("setRain", Scene::busy, x -> x.setRain(0, 10));
            due.noArgument("pass", Scene::busy, x -> x.pass(41));
            due.noState("impossibleOrder", () -> Scene.typed(Scene.busy(), "p1;p"), PrizePurses::impossibleOrder);
            due.noState("carryOut", () -> Scene.typed(Scene.busy(), "p1;w0=9;c9h0;f3+1"), PrizePurses::carryOut);
            due.noState("undo", PrizePurses::new, PrizePurses::undo);
            due.noState("restoreSnapshot", Scene::sixStalls, PrizePurses::restoreSnapshot);
            PrizePurses x = Scene.busy();
            due.is("fails", Due.outcome(() -> x.fund(0, 0)), "IllegalArgumentException");
            due.is("fails", Due.outcome(() -> x.build(3, 0, 1, false)), STATE);
            due.is("the text is there", x.impossibleOrder(), PrizePurses.NONE);
            due.is("states", x.recordedStates(), 2);
            x.restoreSnapshot();
            due.is("the snapshot is there", x.round(), 1);
            x.undo();
            due.is("undo goes back by one", Answers.of(x), Answers.of(Scene.busy()));
        });
    }

    private static void noSuch(Sentences s) {
        s.holds("A method throws an IndexOutOfBoundsException if there is no such pitch,", due -> {
            Sentences.refuses(due, "build ", INDEX, Scene::busy, (x, pitch) -> x.build(pitch, 0, 1, false), -1, 12);
            Sentences.refuses(due, "stallOn ", INDEX, Scene::busy, (x, pitch) -> x.stallOn(pitch), -1, 12);
            Sentences.refuses(due, "crowdOn ", INDEX, Scene::busy, (x, pitch) -> x.crowdOn(pitch), -1, 12);
        });
        s.holds("stall,", due -> {
            Sentences.noStall(due, (x, stall) -> x.pullDown(stall));
            Sentences.noStall(due, (x, stall) -> x.setPrice(stall, 1));
            Sentences.noStall(due, (x, stall) -> x.turnStall(stall) ? 1 : 0);
            Sentences.noStall(due, (x, stall) -> x.restock(stall, 0, 0, 1));
            Sentences.noStall(due, (x, stall) -> x.fund(stall, 1));
            Sentences.noStall(due, (x, stall) -> x.collect(stall));
            Sentences.noStall(due, (x, stall) -> x.purseOfStall(stall));
        });
        s.holds("child (one that has come),", due -> {
            Sentences.refuses(due, "purseOf ", INDEX, Scene::busy, (x, child) -> x.purseOf(child), -1, 3, 40, 199, 200);
            PrizePurses x = Scene.rainy();
            x.come(9, 0, 0);
            x.pass(40);
            due.is("one that has gone home", Due.outcome(() -> x.purseOf(0)), "answered 9");
            due.is("one that has not come", Due.outcome(() -> x.purseOf(1)), "IndexOutOfBoundsException");
            x.come(8, 0, 0);
            due.is("one that has come then", Due.outcome(() -> x.purseOf(1)), "answered 8");
        });
        s.holds("hour,", due -> {
            Sentences.refuses(due, "setRain ", INDEX, Scene::busy, (x, hour) -> x.setRain(hour, 1), -1, 10);
            Sentences.refuses(due, "rainIn ", INDEX, Scene::busy, (x, hour) -> x.rainIn(hour), -1, 10);
        });
        s.holds("kind,", due -> {
            Sentences.refuses(due, "build ", INDEX, Scene::busy, (x, kind) -> x.build(0, kind, 1, false), -1, 5);
            Sentences.refuses(due, "come ", INDEX, Scene::busy, (x, kind) -> x.come(1, kind, 0), -1, 5);
            Sentences.refuses(due, "bestPitch ", INDEX, Scene::busy, (x, kind) -> x.bestPitch(kind, 1), -1, 5);
        });
        s.holds("level", due -> {
            Sentences.refuses(due, "restock ", INDEX, Scene::busy, (x, level) -> x.restock(0, level, 0, 1), -1, 4);
            Sentences.refuses(due, "prizesOn ", INDEX, Scene::busy, (x, level) -> x.prizesOn(0, level, 0), -1, 4);
            Sentences.refuses(due, "wonOf ", INDEX, Scene::busy, (x, level) -> x.wonOf(level), -1, 4);
        });
        s.holds("or colour.", due -> {
            Sentences.refuses(due, "restock ", INDEX, Scene::busy, (x, colour) -> x.restock(0, 0, colour, 1), -1, 4);
            Sentences.refuses(due, "prizesOn ", INDEX, Scene::busy, (x, colour) -> x.prizesOn(0, 0, colour), -1, 4);
            Sentences.refuses(due, "come ", INDEX, Scene::busy, (x, colour) -> x.come(1, 0, colour), -1, 4);
        });
    }

    private static void constants(Sentences s) {
        s.chapter("The constants");
        s.holds("`NONE = -1`: There is no such result.", due -> {
            due.is("NONE", PrizePurses.NONE, -1);
            due.is("a stall", new PrizePurses().stallOn(0), -1);
            due.is("a child", new PrizePurses().happiest(), -1);
        });
        s.holds("`HOOPLA = 0`: Kind of stall.", due -> kind(due, PrizePurses.HOOPLA, 0, 4));
        s.holds("`DARTS = 1`: Kind of stall.", due -> kind(due, PrizePurses.DARTS, 1, 3));
        s.holds("`COCONUTS = 2`: Kind of stall.", due -> kind(due, PrizePurses.COCONUTS, 2, 5));
        s.holds("`DIP = 3`: Kind of stall.", due -> kind(due, PrizePurses.DIP, 3, 1));
        s.holds("`TEA = 4`: Kind of stall.", due -> kind(due, PrizePurses.TEA, 4, -1));
        s.holds("`GONE = 1`: Why a child would not play: it has gone home.", due -> {
            due.is("GONE", PrizePurses.GONE, 1);
            PrizePurses x = Scene.quiet();
            x.come(9, 0, 0);
            x.pass(22);
            due.is("at the gate", x.whyNoPlay(0), PrizePurses.NO_STALL);
            x.pass(1);
            due.is("at home", x.whyNoPlay(0), PrizePurses.GONE);
            x.build(0, 0, 1, false);
            due.is("at home, whatever is built", x.whyNoPlay(0), PrizePurses.GONE);
        });
        s.holds("`NO_STALL = 2`: Why a child would not play: there is no open stall on its pitch.", due -> {
            due.is("NO_STALL", PrizePurses.NO_STALL, 2);
            PrizePurses x = Scene.quiet();
            x.come(9, 0, 0);
            x.build(1, 0, 1, false);
            due.is("a stall on another pitch", x.whyNoPlay(0), PrizePurses.NO_STALL);
            x.build(0, 0, 1, false);
            due.is("an open one", x.whyNoPlay(0), 0);
            x.turnStall(1);
            due.is("a closed one", x.whyNoPlay(0), PrizePurses.NO_STALL);
        });
        s.holds("`TOO_DEAR = 3`: Why a child would not play: its purse does not have the price.", due -> {
            due.is("TOO_DEAR", PrizePurses.TOO_DEAR, 3);
            PrizePurses x = Scene.quiet();
            x.come(8, 0, 0);
            x.build(0, 0, 9, false);
            due.is("9 of 8 coins", x.whyNoPlay(0), PrizePurses.TOO_DEAR);
            x.setPrice(0, 8);
            due.is("8 of 8 coins", x.whyNoPlay(0), 0);
        });
        s.holds("`ENOUGH = 4`: Why a child would not play: its plays here are 2.", due -> {
            due.is("ENOUGH", PrizePurses.ENOUGH, 4);
            PrizePurses x = Scene.quiet();
            x.build(0, 0, 1, false);
            x.come(9, 0, 0);
            x.pass(1);
            due.is("one play", x.whyNoPlay(0), 0);
            x.pass(1);
            due.is("two plays", x.whyNoPlay(0), PrizePurses.ENOUGH);
        });
        s.holds("`SULKING = 5`: Why a child would not play: the kind is neither its favourite nor TEA,"
                + " and its mood is below 50.", due -> {
            due.is("SULKING", PrizePurses.SULKING, 5);
            for (int kind = 0; kind < 5; kind++) {
                for (int favourite = 0; favourite < 5; favourite++) {
                    PrizePurses x = ChildSentences.sulker(favourite);
                    x.build(6, kind, 1, false);
                    boolean sulks = kind != favourite && kind != PrizePurses.TEA;
                    due.is("mood 49, " + favourite + " at " + kind, x.whyNoPlay(0), sulks ? PrizePurses.SULKING : 0);
                    PrizePurses y = ChildSentences.content(favourite);
                    y.build(5, kind, 1, false);
                    due.is("mood 50, " + favourite + " at " + kind, y.whyNoPlay(0), 0);
                }
            }
        });
    }

    private static void kind(Due due, int constant, int value, int playsToWin) {
        due.is("the constant", constant, value);
        PrizePurses x = new PrizePurses();
        x.build(0, constant, 1, false);
        due.is("plays until it wins", x.playsToWin(0), playsToWin);
    }

    private static void undo(Sentences s) {
        s.chapter("Promise 17");
        s.holds("Returns to the state that was recorded last,", due -> {
            PrizePurses x = new PrizePurses();
            x.build(0, 0, 1, false);
            x.build(1, 0, 1, false);
            x.undo();
            due.is("stalls", x.stalls(), 1);
            x.build(2, 0, 1, false);
            x.undo();
            due.is("stalls", x.stalls(), 1);
            due.is("stall on 0", x.stallOn(0), 0);
            x.undo();
            due.is("stalls", x.stalls(), 0);
            due.is("bank", x.bank(), 500);
        });
        s.holds("and discards it from the recorded states.", due -> {
            PrizePurses x = new PrizePurses();
            x.setRain(0, 1);
            x.setRain(0, 2);
            x.undo();
            due.is("states", x.recordedStates(), 1);
            due.is("rain", x.rainIn(0), 1);
            x.undo();
            due.is("rain", x.rainIn(0), 0);
            due.is("it is no action that could be undone", Due.outcome(x::undo), STATE);
        });
        s.holds("Returns the number of recorded states that are left.", due -> {
            PrizePurses x = new PrizePurses();
            for (int action = 0; action < 6; action++) {
                x.setRain(0, action);
            }
            for (int left = 3; left >= 0; left--) {
                due.is("left", x.undo(), left);
            }
        });
        s.holds("Throws `IllegalStateException` if no state is recorded", due -> {
            due.noState("in a new object", PrizePurses::new, PrizePurses::undo);
            due.noState("behind as many as there were", () -> {
                PrizePurses x = new PrizePurses();
                x.setRain(0, 3);
                x.setRain(0, 4);
                x.undo();
                x.undo();
                return x;
            }, PrizePurses::undo);
            due.noState("behind four", () -> {
                PrizePurses x = new PrizePurses();
                for (int action = 0; action < 5; action++) {
                    x.setRain(0, 9 - action);
                }
                for (int action = 0; action < 4; action++) {
                    x.undo();
                }
                return x;
            }, PrizePurses::undo);
        });
    }

    private static void takeSnapshot(Sentences s) {
        s.chapter("Promise 18");
        s.holds("Takes a snapshot of the state,", due -> {
            PrizePurses x = Scene.busy();
            x.takeSnapshot();
            due.is("nothing changes", Answers.of(x), Answers.of(Scene.busy()));
            due.is("nothing is recorded", x.recordedStates(), 2);
            changeAll(x);
            x.restoreSnapshot();
            due.is("the state that was taken", bare(x), bare(Scene.busy()));
        });
        s.holds("which replaces the previous snapshot.", due -> {
            PrizePurses x = new PrizePurses();
            x.setRain(0, 1);
            x.takeSnapshot();
            x.setRain(0, 2);
            x.takeSnapshot();
            x.setRain(0, 3);
            x.restoreSnapshot();
            due.is("rain", x.rainIn(0), 2);
            x.restoreSnapshot();
            due.is("rain", x.rainIn(0), 2);
        });
        s.holds("Returns the coins in the bank.", due -> {
            PrizePurses x = new PrizePurses();
            due.is("at first", x.takeSnapshot(), 500);
            x.build(0, 0, 1, true);
            due.is("then", x.takeSnapshot(), 450);
            due.is("nothing", Scene.withBank(0).takeSnapshot(), 0);
        });
    }

    private static void restoreSnapshot(Sentences s) {
        s.chapter("Promise 19");
        s.holds("Returns to the state of the snapshot,", due -> {
            PrizePurses x = new PrizePurses();
            x.build(4, 2, 3, false);
            x.takeSnapshot();
            x.pullDown(0);
            x.pass(40);
            x.restoreSnapshot();
            due.is("stalls", x.stalls(), 1);
            due.is("price", x.priceOf(0), 3);
            due.is("day", x.day(), 0);
            due.is("children", x.children(), 0);
            due.is("bank", x.bank(), 470);
        });
        s.holds("which is kept.", due -> {
            PrizePurses x = new PrizePurses();
            x.takeSnapshot();
            for (int time = 0; time < 6; time++) {
                x.build(time, 0, 1, false);
                x.pass(3);
                due.is("bank", x.restoreSnapshot(), 500);
                due.is("stalls", x.stalls(), 0);
                due.is("round", x.round(), 0);
            }
        });
        s.action(PrizePurses::restoreSnapshot);
        s.holds("Returns the coins in the bank afterwards.", due -> {
            PrizePurses x = new PrizePurses();
            x.build(0, 0, 1, false);
            x.takeSnapshot();
            x.fund(0, 99);
            due.is("coins", x.restoreSnapshot(), 470);
            due.is("bank", x.bank(), 470);
        });
        s.holds("Throws `IllegalStateException` if there is no snapshot", due -> {
            due.noState("in a new object", PrizePurses::new, PrizePurses::restoreSnapshot);
            due.noState("behind actions", Scene::sixStalls, PrizePurses::restoreSnapshot);
            PrizePurses x = new PrizePurses();
            x.takeSnapshot();
            due.is("behind one", Due.outcome(x::restoreSnapshot), "answered 500");
        });
    }

    private static void recordedStates(Sentences s) {
        s.chapter("Promise 59");
        s.holds("Returns the number of recorded states.", due -> {
            PrizePurses x = new PrizePurses();
            int[] states = {0, 1, 2, 3, 4, 4, 4, 4};
            for (int action = 0; action < states.length; action++) {
                due.is("behind " + action, x.recordedStates(), states[action]);
                x.pass(1);
            }
            for (int left = 3; left >= 0; left--) {
                x.undo();
                due.is("left", x.recordedStates(), left);
            }
            x.takeSnapshot();
            due.is("a snapshot is none", x.recordedStates(), 0);
            x.setRain(0, 0);
            due.is("one again", x.recordedStates(), 1);
        });
    }
}
