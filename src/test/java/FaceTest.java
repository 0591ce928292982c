import java.lang.reflect.Constructor;
import java.lang.reflect.Field;
import java.lang.reflect.Method;
import java.lang.reflect.Modifier;
import java.util.Arrays;
import java.util.TreeSet;

/** The public face: the constants with their values, the constructor and the methods, and nothing else. */
public final class FaceTest {
    private static final String[] CONSTANTS = {
        "MIN_PRIMARY=1", "MAX_PRIMARY=12", "MIN_SECONDARY=0", "MAX_SECONDARY=8", "MAX_OPTIONS=16",
        "MAX_ENTRIES=64", "MAX_COLOUR=15", "MAX_STORED=64", "OK=0", "ERR_ITEM=-1", "ERR_COLOUR=-2",
        "ERR_PRIMARY_COLOUR=-3", "ERR_DUPLICATE=-4", "ERR_ENTRIES_FULL=-5", "ERR_EMPTY=-6",
        "ERR_NO_PRIMARY=-7", "ERR_OPTIONS_FULL=-8", "NONE=-1"
    };
    private static final String[] METHODS = {
        "int addItem(int,int)", "int endOption()", "int discardPending()", "void clearOptions()",
        "int primaryCount()", "int secondaryCount()", "int optionCount()", "int pendingSize()",
        "int optionSize(int)", "int optionEntry(int,int)", "boolean isCover(int)", "int solve()",
        "int solutionCount()", "int solutionSize(int)", "int solutionOption(int,int)"
    };

    public static void main(String[] args) throws IllegalAccessException {
        Check.due("the class's modifiers", Modifier.toString(ColorCover.class.getModifiers()), "public final");
        Check.due("the constants", constants().toString(), sorted(CONSTANTS).toString());
        Check.due("the methods", methods().toString(), sorted(METHODS).toString());
        Constructor<?>[] constructors = ColorCover.class.getDeclaredConstructors();
        Check.due("the constructors", Arrays.toString(constructors), "[public ColorCover(int,int)]");
        Check.due("nested classes", ColorCover.class.getDeclaredClasses().length, 0);
        Check.finish();
    }

    private static TreeSet<String> sorted(String[] texts) {
        return new TreeSet<>(Arrays.asList(texts));
    }

    private static TreeSet<String> constants() throws IllegalAccessException {
        TreeSet<String> found = new TreeSet<>();
        for (Field field : ColorCover.class.getDeclaredFields()) {
            String modifiers = Modifier.toString(field.getModifiers());
            if (modifiers.equals("public static final") && field.getType() == int.class) {
                found.add(field.getName() + "=" + field.getInt(null));
            } else if (!Modifier.isPrivate(field.getModifiers())) {
                found.add(field.toString());
            }
        }
        return found;
    }

    private static TreeSet<String> methods() {
        TreeSet<String> found = new TreeSet<>();
        for (Method method : ColorCover.class.getDeclaredMethods()) {
            if (!Modifier.isPrivate(method.getModifiers())) {
                found.add(method.toString().replace("public ", "").replace("ColorCover.", ""));
            }
        }
        return found;
    }
}
