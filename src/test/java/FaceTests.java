import java.lang.reflect.Constructor;
import java.lang.reflect.Field;
import java.lang.reflect.Member;
import java.lang.reflect.Method;
import java.lang.reflect.Modifier;
import java.util.TreeSet;

/** The public face: the constants, the constructor and the methods of the document, and nothing beyond. */
public final class FaceTests {
    private static final String FACE = "add/2 alike/2 append/2 brokenAt/0 characterAt/2 copy/2 count/1 digest/1 drop/3 "
        + "empty/1 erase/1 forget/1 get/3 getOr/4 has/2 ifEmpty/2 join/2 joinWithin/4 joined/2 joinedLength/1 keep/1 "
        + "keyFrom/3 layerOf/2 length/1 load/1 merge/2 more/1 name/3 names/1 next/2 nextBy/3 refusals/1 restore/1 "
        + "same/2 set/4 setJoined/3 size/1 tapeAt/1 tapeLength/0 tokenize/2 tokenizeAll/3 tokenizeBy/3 "
        + "tokenizeValue/4 type/1 wipe/0 write/1";

    public static void main(String[] args) {
        constants();
        methods();
        fieldsAndConstructors();
        Check.finish("FaceTests");
    }

    private static void constants() {
        Check.due("BAD", SettingsDrawer.BAD, -1);
        Check.due("NOTHING", SettingsDrawer.NOTHING, -2);
        Check.due("FULL", SettingsDrawer.FULL, -3);
        Check.due("NOT_MADE", SettingsDrawer.NOT_MADE, -4);
        Check.due("NONE", SettingsDrawer.NONE, -5);
        Check.due("BROKEN", SettingsDrawer.BROKEN, -6);
        Check.due("NULL_POINTER", SettingsDrawer.NULL_POINTER, -7);
        Check.due("NO_SUCH_ELEMENT", SettingsDrawer.NO_SUCH_ELEMENT, -8);
    }

    private static boolean isPrivate(Member member) {
        return Modifier.isPrivate(member.getModifiers()) || member.isSynthetic();
    }

    private static void methods() {
        TreeSet<String> found = new TreeSet<>();
        TreeSet<String> publicNames = new TreeSet<>();
        for (Method method : SettingsDrawer.class.getDeclaredMethods()) {
            if (!isPrivate(method)) {
                found.add(method.getName() + "/" + method.getParameterCount());
                publicNames.add(method.getName());
                Check.due(method + " is public", Modifier.isPublic(method.getModifiers()) ? 1 : 0, 1);
                Check.due(method + " answers an int", method.getReturnType() == int.class ? 1 : 0, 1);
                for (Class<?> type : method.getParameterTypes()) {
                    Check.due(method + " takes ints", type == int.class ? 1 : 0, 1);
                }
            }
        }
        Check.dueText("the methods", String.join(" ", found), String.join(" ", new TreeSet<>(java.util.List.of(FACE.split(" ")))));
        for (Method method : SettingsDrawer.class.getDeclaredMethods()) {
            boolean twice = isPrivate(method) && publicNames.contains(method.getName());
            Check.due(method + " bears the name of a public method", twice ? 1 : 0, 0);
        }
        for (Class<?> inside : SettingsDrawer.class.getDeclaredClasses()) {
            int modifiers = inside.getModifiers();
            Check.due(inside + " is static", Modifier.isStatic(modifiers) ? 1 : 0, 1);
            Check.due(inside + " is public or protected", Modifier.isPublic(modifiers) || Modifier.isProtected(modifiers) ? 1 : 0, 0);
            for (Method method : inside.getDeclaredMethods()) {
                Check.due(method + " bears the name of a public method", publicNames.contains(method.getName()) ? 1 : 0, 0);
            }
        }
    }

    private static void fieldsAndConstructors() {
        TreeSet<String> found = new TreeSet<>();
        for (Field field : SettingsDrawer.class.getDeclaredFields()) {
            if (!isPrivate(field)) {
                found.add(field.getName());
                int wanted = Modifier.PUBLIC | Modifier.STATIC | Modifier.FINAL;
                Check.due(field + " is public static final", field.getModifiers() & wanted, wanted);
            }
        }
        Check.dueText("the constants", String.join(" ", found),
            "BAD BROKEN FULL NONE NOTHING NOT_MADE NO_SUCH_ELEMENT NULL_POINTER");
        Constructor<?>[] constructors = SettingsDrawer.class.getDeclaredConstructors();
        Check.due("the constructors", constructors.length, 1);
        Check.due("the constructor's parameters", constructors[0].getParameterCount(), 0);
        Check.due("the constructor is public", Modifier.isPublic(constructors[0].getModifiers()) ? 1 : 0, 1);
        Check.due("the class is public and final",
            SettingsDrawer.class.getModifiers() & (Modifier.PUBLIC | Modifier.FINAL), Modifier.PUBLIC | Modifier.FINAL);
    }
}
