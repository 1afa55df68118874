import java.lang.reflect.Constructor;
import java.lang.reflect.Field;
import java.lang.reflect.Method;
import java.lang.reflect.Modifier;
import java.util.Set;
import java.util.TreeSet;

/** The public face: its constants, constructor and methods, with what they throw, and no more. */
final class FaceTest {
    private static final String[] CONSTANTS = {
        "NONE -1", "HOOPLA 0", "DARTS 1", "COCONUTS 2", "DIP 3", "TEA 4",
        "GONE 1", "NO_STALL 2", "TOO_DEAR 3", "ENOUGH 4", "SULKING 5",
    };

    /** The letters behind a name: what it throws: i index, a argument, s state. */
    private static final String[] METHODS = {
        "int build(int,int,int,boolean) ias", "int pullDown(int) i", "int setPrice(int,int) ia",
        "boolean turnStall(int) i", "int restock(int,int,int,int) ias", "int fund(int,int) ias",
        "int collect(int) i", "int come(int,int,int) ias", "int setRain(int,int) ia", "int pass(int) as",
        "int type(char) s", "int clearText() ", "int textError() ", "int impossibleOrder() s",
        "int carryOut() s", "int undo() s", "int takeSnapshot() ", "int restoreSnapshot() s",
        "int stalls() ", "int pitchOf(int) i", "int stallOn(int) i", "int priceOf(int) i",
        "boolean isOpen(int) i", "int purseOfStall(int) i", "int playsOf(int) i", "int rentOf(int) i",
        "int playsToWin(int) i", "int prizesOn(int,int,int) i", "int shelfOf(int) i",
        "int levelToWin(int) i", "int wonOf(int) i", "int children() ", "int atFair() ",
        "boolean isAtFair(int) i", "int purseOf(int) i", "int moodOf(int) i", "int placeOf(int) i",
        "boolean isHomeward(int) i", "int prizesOf(int) i", "int whyNoPlay(int) i", "int happiest() ",
        "int sulkers() ", "int crowdOn(int) i", "int day() ", "int round() ", "int rainIn(int) i",
        "boolean isChildDue() ", "int bank() ", "int town() ", "int allCoins() ", "int coinsByPlaces() ",
        "int takings() ", "int takingsByChildren() ", "int plays() ", "int takingsToday() ",
        "int homeIn(int) i", "int bestPitch(int,int) ia", "int recordedStates() ",
    };

    public static void main(String[] args) throws IllegalAccessException {
        Due due = new Due();
        due.is("the class is public and final", PrizePurses.class.getModifiers(),
                Modifier.PUBLIC | Modifier.FINAL);
        due.is("the constants", constants().toString(), sorted(CONSTANTS).toString());
        due.is("the methods", methods().toString(), sorted(METHODS).toString());
        Constructor<?>[] constructors = PrizePurses.class.getDeclaredConstructors();
        due.is("constructors", constructors.length, 1);
        due.is("arguments of the constructor", constructors[0].getParameterCount(), 0);
        due.is("the constructor is public", constructors[0].getModifiers(), Modifier.PUBLIC);
        due.end();
    }

    private static Set<String> sorted(String[] lines) {
        Set<String> all = new TreeSet<>();
        for (String line : lines) {
            all.add(line);
        }
        return all;
    }

    private static Set<String> constants() throws IllegalAccessException {
        Set<String> found = new TreeSet<>();
        for (Field field : PrizePurses.class.getDeclaredFields()) {
            if (Modifier.isPrivate(field.getModifiers())) {
                continue;
            }
            int wanted = Modifier.PUBLIC | Modifier.STATIC | Modifier.FINAL;
            boolean plain = field.getModifiers() == wanted && field.getType() == int.class;
            found.add(field.getName() + (plain ? " " + field.getInt(null) : " is no constant"));
        }
        return found;
    }

    private static Set<String> methods() {
        Set<String> found = new TreeSet<>();
        for (Method method : PrizePurses.class.getDeclaredMethods()) {
            if (Modifier.isPrivate(method.getModifiers())) {
                continue;
            }
            StringBuilder line = new StringBuilder();
            if (method.getModifiers() != Modifier.PUBLIC) {
                line.append("not plainly public: ");
            }
            line.append(method.getReturnType().getName()).append(' ').append(method.getName()).append('(');
            String comma = "";
            for (Class<?> type : method.getParameterTypes()) {
                line.append(comma).append(type.getName());
                comma = ",";
            }
            line.append(") ");
            for (Class<?> thrown : method.getExceptionTypes()) {
                line.append(letterOf(thrown));
            }
            found.add(line.toString());
        }
        return found;
    }

    private static String letterOf(Class<?> thrown) {
        if (thrown == IndexOutOfBoundsException.class) {
            return "i";
        }
        if (thrown == IllegalArgumentException.class) {
            return "a";
        }
        return thrown == IllegalStateException.class ? "s" : thrown.getName();
    }
}
