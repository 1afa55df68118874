import java.lang.reflect.Constructor;
import java.lang.reflect.Field;
import java.lang.reflect.Method;
import java.lang.reflect.Modifier;

/** What the document says before its terms, and of the interface ahead of its promises. */
final class FaceSentences {
    private static final String INDEX = " throws IndexOutOfBoundsException";
    private static final String STATE = " throws IllegalStateException";
    private static final String INDEX_ARGUMENT = INDEX + ", IllegalArgumentException";
    private static final String ARGUMENT_STATE = " throws IllegalArgumentException, IllegalStateException";
    private static final String ALL_THREE = INDEX_ARGUMENT + ", IllegalStateException";

    private FaceSentences() {
    }

    static void tell(Sentences s) {
        stallsAndChildren(s);
        rainRentsAndCoins(s);
        howManyCalls(s);
        constants(s);
        actions(s);
        textsAndUndo(s);
        questions(s);
        moreQuestions(s);
        nothingElse(s);
        actionsRecord(s);
        questionsRecordNothing(s);
    }

    private static void stallsAndChildren(Sentences s) {
        s.chapter("What it is");
        s.holds("A fairground along a path: stalls on pitches with prices, roofs and shelves of prizes,", due -> {
            PrizePurses x = Scene.rainy();
            due.is("a stall", x.build(4, PrizePurses.COCONUTS, 7, true), 0);
            due.is("its pitch", x.pitchOf(0), 4);
            due.is("its price", x.priceOf(0), 7);
            x.fund(0, 9);
            x.restock(0, 1, 2, 3);
            due.is("its shelf", x.shelfOf(0), 3);
            due.is("its prizes", x.prizesOn(0, 1, 2), 3);
            x.come(0, 0, 0);
            x.pass(4);
            due.is("a mood on the path to it", x.moodOf(0), 52);
            x.pass(1);
            due.is("a mood below its roof", x.moodOf(0), 52);
        });
        s.holds("children with purses, moods and favourites who walk, play, win and go home,", due -> {
            PrizePurses x = Scene.quiet();
            x.build(1, PrizePurses.DIP, 3, false);
            x.fund(0, 2);
            x.restock(0, 0, 1, 1);
            x.restock(0, 0, 2, 1);
            x.come(5, PrizePurses.DIP, 2);
            due.is("a purse", x.purseOf(0), 5);
            due.is("a mood", x.moodOf(0), 60);
            x.pass(1);
            due.is("it walks", x.placeOf(0), 1);
            x.pass(1);
            due.is("it plays", x.purseOf(0), 2);
            due.is("it wins", x.prizesOf(0), 1);
            due.is("its favourite", x.prizesOn(0, 0, 2), 0);
            due.is("which it likes", x.moodOf(0), 90);
            x.pass(21);
            due.is("it is at the gate", x.placeOf(0), 0);
            x.pass(1);
            due.is("it goes home", x.isAtFair(0), false);
        });
    }

    private static void rainRentsAndCoins(Sentences s) {
        s.holds("rain by the hour,", due -> {
            PrizePurses x = new PrizePurses();
            x.setRain(1, 6);
            x.come(0, 0, 0);
            x.pass(4);
            due.is("the hour 0", x.moodOf(0), 60);
            x.pass(4);
            due.is("the hour 1", x.moodOf(0), 48);
            x.pass(4);
            due.is("the hour 2", x.moodOf(0), 48);
        });
        s.holds("rents by the day,", due -> {
            PrizePurses x = Scene.rainy();
            x.build(10, PrizePurses.TEA, 1, false);
            x.fund(0, 50);
            for (int day = 0; day < 5; day++) {
                due.is("town on day " + day, x.town(), 3 * day);
                x.pass(39);
                due.is("town before its end", x.town(), 3 * day);
                x.pass(1);
            }
        });
        s.holds("and a bank;", due -> {
            PrizePurses x = new PrizePurses();
            x.build(0, PrizePurses.TEA, 1, false);
            x.fund(0, 70);
            due.is("coins in it", x.bank(), 400);
            x.collect(0);
            due.is("coins in it", x.bank(), 470);
        });
        s.holds("no coin is lost or made.", due -> {
            PrizePurses x = new PrizePurses();
            int spent = 0;
            for (int i = 0; i < 6; i++) {
                x.build(2 * i, i % 5, 1 + i, i % 2 == 1);
                spent += i % 2 == 1 ? 50 : 30;
                coins(due, x, spent);
            }
            for (int i = 0; i < 4; i++) {
                x.fund(i, 30 + i);
                coins(due, x, spent);
                x.restock(i, i, i, 2);
                spent += new int[] {2, 6, 12, 20}[i];
                coins(due, x, spent);
            }
            Scene.rain(x, 5);
            x.setRain(0, 0);
            for (int i = 0; i < 8; i++) {
                x.come(14 * i, i % 5, i % 4);
                x.pass(i < 4 ? 7 : 40);
                coins(due, x, spent);
            }
            due.is("children, five of them by themselves", x.children(), 13);
            x.collect(0);
            coins(due, x, spent);
            x.pullDown(1);
            coins(due, x, spent);
            x.setPrice(0, 9);
            x.turnStall(0);
            x.pass(13);
            coins(due, x, spent);
            x.undo();
            coins(due, x, spent);
        });
    }

    /** All coins that there are, counted place by place. */
    private static void coins(Due due, PrizePurses x, int spent) {
        int inStalls = 0;
        for (int stall = x.stalls() - 1; stall >= 0; stall--) {
            inStalls += x.purseOfStall(stall);
        }
        int inPurses = 0;
        for (int child = x.children() - 1; child >= 0; child--) {
            inPurses += x.purseOf(child);
        }
        int coins = x.bank() + x.town() + spent + inStalls + inPurses;
        due.is("the coins that are", coins, 500 + inPurses + x.takings());
        due.is("all that ever were", x.allCoins(), coins);
        due.is("told by places", x.coinsByPlaces(), coins);
    }

    private static void howManyCalls(Sentences s) {
        s.holds("An object is used for at most 512 calls after it has been made;", due -> {
            PrizePurses x = new PrizePurses();
            for (int call = 1; call <= 510; call += 2) {
                due.is("call " + call, x.setRain(0, call % 10), call == 1 ? 0 : (call + 8) % 10);
                due.is("call " + (call + 1), x.rainIn(0), call % 10);
            }
            due.is("call 511", x.undo(), 3);
            due.is("call 512", x.rainIn(0), 507 % 10);
        });
        s.holds("what later calls answer is free.", due -> {
            PrizePurses x = new PrizePurses();
            for (int call = 1; call <= 520; call++) {
                String outcome = Due.outcome(x::undo);
                due.is("but no call throws what the document does not name", outcome, "IllegalStateException");
            }
        });
    }

    private static void constants(Sentences s) {
        s.chapter("The public face");
        s.holds("public final class PrizePurses {", due -> {
            due.is("public and final", PrizePurses.class.getModifiers(), Modifier.PUBLIC | Modifier.FINAL);
            due.is("its name", PrizePurses.class.getName(), "PrizePurses");
            due.is("it extends nothing", PrizePurses.class.getSuperclass() == Object.class, true);
            due.is("it implements nothing", PrizePurses.class.getInterfaces().length, 0);
        });
        constant(s, "NONE", -1);
        constant(s, "HOOPLA", 0);
        constant(s, "DARTS", 1);
        constant(s, "COCONUTS", 2);
        constant(s, "DIP", 3);
        constant(s, "TEA", 4);
        constant(s, "GONE", 1);
        constant(s, "NO_STALL", 2);
        constant(s, "TOO_DEAR", 3);
        constant(s, "ENOUGH", 4);
        constant(s, "SULKING", 5);
        s.holds("public PrizePurses();", due -> {
            Constructor<?>[] constructors = PrizePurses.class.getDeclaredConstructors();
            due.is("constructors", constructors.length, 1);
            due.is("it is public", constructors[0].getModifiers(), Modifier.PUBLIC);
            due.is("its arguments", constructors[0].getParameterCount(), 0);
            due.is("what it throws", constructors[0].getExceptionTypes().length, 0);
            due.is("its promise says the same", s.promises("PrizePurses()"), true);
        });
    }

    private static void constant(Sentences s, String name, int value) {
        s.holds("public static final int " + name + " = " + value + ";", due -> {
            int found = 0;
            for (Field field : PrizePurses.class.getDeclaredFields()) {
                if (field.getName().equals(name)) {
                    found++;
                    due.is("modifiers", Modifier.toString(field.getModifiers()), "public static final");
                    due.is("type", field.getType().getName(), "int");
                    due.is("value", valueOf(field), value);
                }
            }
            due.is("constants of that name", found, 1);
        });
    }

    private static int valueOf(Field field) {
        try {
            return field.getInt(null);
        } catch (IllegalAccessException e) {
            throw new IllegalStateException(e);
        }
    }

    private static void actions(Sentences s) {
        method(s, "int build(int pitch, int kind, int price, boolean hasRoof)" + ALL_THREE);
        method(s, "int pullDown(int stall)" + INDEX);
        method(s, "int setPrice(int stall, int price)" + INDEX_ARGUMENT);
        method(s, "boolean turnStall(int stall)" + INDEX);
        method(s, "int restock(int stall, int level, int colour, int many)" + ALL_THREE);
        method(s, "int fund(int stall, int coins)" + ALL_THREE);
        method(s, "int collect(int stall)" + INDEX);
        method(s, "int come(int purse, int kind, int colour)" + ALL_THREE);
        method(s, "int setRain(int hour, int rain)" + INDEX_ARGUMENT);
        method(s, "int pass(int rounds)" + ARGUMENT_STATE);
    }

    private static void textsAndUndo(Sentences s) {
        method(s, "int type(char character)" + STATE);
        method(s, "int clearText()");
        method(s, "int textError()");
        method(s, "int impossibleOrder()" + STATE);
        method(s, "int carryOut()" + STATE);
        method(s, "int undo()" + STATE);
        method(s, "int takeSnapshot()");
        method(s, "int restoreSnapshot()" + STATE);
    }

    private static void questions(Sentences s) {
        method(s, "int stalls()");
        method(s, "int pitchOf(int stall)" + INDEX);
        method(s, "int stallOn(int pitch)" + INDEX);
        method(s, "int priceOf(int stall)" + INDEX);
        method(s, "boolean isOpen(int stall)" + INDEX);
        method(s, "int purseOfStall(int stall)" + INDEX);
        method(s, "int playsOf(int stall)" + INDEX);
        method(s, "int rentOf(int stall)" + INDEX);
        method(s, "int playsToWin(int stall)" + INDEX);
        method(s, "int prizesOn(int stall, int level, int colour)" + INDEX);
        method(s, "int shelfOf(int stall)" + INDEX);
        method(s, "int levelToWin(int stall)" + INDEX);
        method(s, "int wonOf(int level)" + INDEX);
        method(s, "int children()");
        method(s, "int atFair()");
        method(s, "boolean isAtFair(int child)" + INDEX);
        method(s, "int purseOf(int child)" + INDEX);
        method(s, "int moodOf(int child)" + INDEX);
        method(s, "int placeOf(int child)" + INDEX);
        method(s, "boolean isHomeward(int child)" + INDEX);
        method(s, "int prizesOf(int child)" + INDEX);
        method(s, "int whyNoPlay(int child)" + INDEX);
    }

    private static void moreQuestions(Sentences s) {
        method(s, "int happiest()");
        method(s, "int sulkers()");
        method(s, "int crowdOn(int pitch)" + INDEX);
        method(s, "int day()");
        method(s, "int round()");
        method(s, "int rainIn(int hour)" + INDEX);
        method(s, "boolean isChildDue()");
        method(s, "int bank()");
        method(s, "int town()");
        method(s, "int allCoins()");
        method(s, "int coinsByPlaces()");
        method(s, "int takings()");
        method(s, "int takingsByChildren()");
        method(s, "int plays()");
        method(s, "int takingsToday()");
        method(s, "int homeIn(int child)" + INDEX);
        method(s, "int bestPitch(int kind, int price)" + INDEX_ARGUMENT);
        method(s, "int recordedStates()");
    }

    /** The class has just one method of that name, and it is the one that is told; so says its promise. */
    private static void method(Sentences s, String told) {
        s.holds("public " + told + ";", due -> {
            String name = told.substring(told.indexOf(' ') + 1, told.indexOf('('));
            int found = 0;
            for (Method method : PrizePurses.class.getDeclaredMethods()) {
                if (method.getName().equals(name)) {
                    found++;
                    due.is("modifiers", Modifier.toString(method.getModifiers()), "public");
                    due.is("signature", signatureOf(method), told.replaceAll("(int|boolean|char) \\w+([,)])", "$1$2"));
                }
            }
            due.is("methods of that name", found, 1);
            due.is("its promise says the same", s.promises(told), true);
        });
    }

    private static String signatureOf(Method method) {
        StringBuilder line = new StringBuilder(method.getReturnType().getName() + " " + method.getName() + "(");
        String comma = "";
        for (Class<?> type : method.getParameterTypes()) {
            line.append(comma).append(type.getName());
            comma = ", ";
        }
        line.append(')');
        comma = " throws ";
        for (Class<?> thrown : method.getExceptionTypes()) {
            line.append(comma).append(thrown.getSimpleName());
            comma = ", ";
        }
        return line.toString();
    }

    private static void nothingElse(Sentences s) {
        s.holds("}", due -> {
            int methods = 0;
            for (Method method : PrizePurses.class.getDeclaredMethods()) {
                methods += Modifier.isPrivate(method.getModifiers()) ? 0 : 1;
            }
            due.is("methods that are seen", methods, 58);
            int constants = 0;
            for (Field field : PrizePurses.class.getDeclaredFields()) {
                constants += Modifier.isPrivate(field.getModifiers()) ? 0 : 1;
            }
            due.is("fields that are seen", constants, 11);
            due.is("classes that are seen", PrizePurses.class.getClasses().length, 0);
        });
    }

    private static void actionsRecord(Sentences s) {
        s.chapter("The interface");
        s.holds("Ahead of the calls `build`, `pullDown`, `setPrice`, `turnStall`, `restock`, `fund`, `collect`"
                + " the interface says: ---- actions: stalls.", due -> records(due, 1, x -> x.build(0, 0, 1, false),
                x -> x.pullDown(0), x -> x.setPrice(0, 4), x -> x.turnStall(0) ? 1 : 0, x -> x.restock(0, 0, 0, 1),
                x -> x.fund(0, 1), x -> x.collect(0)));
        s.holds("Ahead of the calls `come`, `setRain`, `pass` the interface says: ---- actions: children, rain, time.",
                due -> records(due, 1, x -> x.come(0, 0, 0), x -> x.setRain(0, 5), x -> x.pass(1)));
        s.holds("Ahead of the calls `type`, `clearText`, `textError`, `impossibleOrder`, `carryOut` the interface says:"
                + " ---- order texts.", due -> {
            records(due, 0, x -> x.type(';'), PrizePurses::clearText, PrizePurses::textError,
                    PrizePurses::impossibleOrder);
            records(due, 1, PrizePurses::carryOut);
        });
        s.holds("Ahead of the calls `undo`, `takeSnapshot`, `restoreSnapshot` the interface says:"
                + " ---- undo, snapshot.", due -> {
            records(due, -1, PrizePurses::undo);
            records(due, 0, PrizePurses::takeSnapshot);
            records(due, 1, PrizePurses::restoreSnapshot);
        });
    }

    private static void questionsRecordNothing(Sentences s) {
        s.holds("Ahead of the calls `stalls`, `pitchOf`, `stallOn`, `priceOf`, `isOpen`, `purseOfStall`, `playsOf`,"
                + " `rentOf`, `playsToWin` the interface says: ---- stalls.", due -> changeNothing(due,
                PrizePurses::stalls, x -> x.pitchOf(1), x -> x.stallOn(7), x -> x.priceOf(1),
                x -> x.isOpen(1) ? 1 : 0, x -> x.purseOfStall(1), x -> x.playsOf(1), x -> x.rentOf(1),
                x -> x.playsToWin(1)));
        s.holds("Ahead of the calls `prizesOn`, `shelfOf`, `levelToWin`, `wonOf` the interface says: ---- prizes.",
                due -> changeNothing(due, x -> x.prizesOn(1, 2, 3), x -> x.shelfOf(1), x -> x.levelToWin(1),
                x -> x.wonOf(2)));
        s.holds("Ahead of the calls `children`, `atFair`, `isAtFair`, `purseOf`, `moodOf`, `placeOf`, `isHomeward`,"
                + " `prizesOf`, `whyNoPlay`, `happiest`, `sulkers`, `crowdOn` the interface says: ---- children.",
                due -> changeNothing(due, PrizePurses::children, PrizePurses::atFair, x -> x.isAtFair(0) ? 1 : 0,
                x -> x.purseOf(0), x -> x.moodOf(0), x -> x.placeOf(0), x -> x.isHomeward(0) ? 1 : 0,
                x -> x.prizesOf(0), x -> x.whyNoPlay(0), PrizePurses::happiest, PrizePurses::sulkers,
                x -> x.crowdOn(2)));
        s.holds("Ahead of the calls `day`, `round`, `rainIn`, `isChildDue` the interface says: ---- time, rain.",
                due -> changeNothing(due, PrizePurses::day, PrizePurses::round, x -> x.rainIn(0),
                x -> x.isChildDue() ? 1 : 0));
        s.holds("Ahead of the calls `bank`, `town`, `allCoins`, `coinsByPlaces`, `takings`, `takingsByChildren`, `plays`"
                + " the interface says: ---- accounts.", due -> changeNothing(due, PrizePurses::bank,
                PrizePurses::town, PrizePurses::allCoins, PrizePurses::coinsByPlaces, PrizePurses::takings,
                PrizePurses::takingsByChildren, PrizePurses::plays));
        s.holds("Ahead of the calls `takingsToday`, `homeIn`, `bestPitch`, `recordedStates` the interface says:"
                + " ---- forecasts; nothing changes.", due -> changeNothing(due, PrizePurses::takingsToday,
                x -> x.homeIn(0), x -> x.homeIn(2), x -> x.bestPitch(0, 1), x -> x.bestPitch(4, 9),
                PrizePurses::recordedStates));
    }

    /** Each of the calls records so many states on a busy fair, which has two. */
    private static void records(Due due, int states, Due.CallOn... calls) {
        for (int call = 0; call < calls.length; call++) {
            PrizePurses x = Scene.busy();
            calls[call].answer(x);
            due.is("states behind call " + call, x.recordedStates(), 2 + states);
        }
    }

    private static void changeNothing(Due due, Due.CallOn... calls) {
        records(due, 0, calls);
        for (int call = 0; call < calls.length; call++) {
            PrizePurses x = Scene.busy();
            long answer = calls[call].answer(x);
            due.is("call " + call + " again", calls[call].answer(x), answer);
            due.is("all answers behind it", Answers.of(x), Answers.of(Scene.busy()));
        }
    }
}
