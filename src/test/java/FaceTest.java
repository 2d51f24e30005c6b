import java.lang.reflect.Constructor;
import java.lang.reflect.Field;
import java.lang.reflect.Method;
import java.lang.reflect.Modifier;
import java.util.Set;
import java.util.TreeSet;

/** The public face is the document's, name by name and type by type, and nothing else can be seen from outside. */
public final class FaceTest {
    private static final String[] CALLS = {
        "int row(int,int)", "int lay(int,int,int)", "int at(int,int)", "int tear(int)", "int copy(int,int,int,int,int)",
        "int mean(int)", "int text(int,int)", "int put(int,int,int)", "int fault(int)", "int rock(int)",
        "int tower(int)", "int house(int,int,int)", "int mark(int,int,int)", "int bear(int,int,int)",
        "int build(int,int,int)", "int leave(int,int)", "int undo(int)", "int keep(int)", "int on(int)",
        "int shades(int,int,int)", "int sees(int,int)", "int owes(int,int)", "int debt(int)", "int light()",
        "int ruined()", "int sways()", "int best(int,int)", "int both(int,int,int)", "int fewest()", "int relief()",
        "int high(int,int)", "int settle()", "int rings()", "int game(int,int)", "int begin(int,int)", "int fog(int)",
        "int kinds(int,int,int)", "int odds(int,int)", "int lots(int,int)", "int asked()", "long upper()",
        "long lower()", "int count(int)", "int finding()", "int findings(int)", "long digest()"
    };
    private static int wrong = 0;

    public static void main(String[] args) {
        theClass();
        theConstants();
        theCalls();
        theClassesInside();
        System.out.println(wrong == 0 ? "the face is as due" : wrong + " faults of the face");
        if (wrong != 0) {
            System.exit(1);
        }
    }

    private static void expect(boolean isRight, String what) {
        if (!isRight) {
            wrong++;
            System.out.println(what);
        }
    }

    private static boolean isPrivate(int modifiers) {
        return Modifier.isPrivate(modifiers);
    }

    private static void theClass() {
        int modifiers = RoofLent.class.getModifiers();
        expect(Modifier.isPublic(modifiers) && Modifier.isFinal(modifiers), "the class is public and final");
        expect(RoofLent.class.getSuperclass() == Object.class, "the class extends nothing");
        Constructor<?>[] all = RoofLent.class.getDeclaredConstructors();
        expect(all.length == 1 && Modifier.isPublic(all[0].getModifiers()) && all[0].getParameterCount() == 0,
            "there is just one constructor, without parameters");
    }

    private static void theConstants() {
        expect(RoofLent.BAD == -1 && RoofLent.FULL == -2 && RoofLent.FINDING == -3, "BAD, FULL, FINDING");
        expect(RoofLent.STATE == -4 && RoofLent.SPENT == -6 && RoofLent.NONE == -9, "STATE, SPENT, NONE");
        Set<String> seen = new TreeSet<>();
        for (Field field : RoofLent.class.getDeclaredFields()) {
            int modifiers = field.getModifiers();
            if (!isPrivate(modifiers)) {
                seen.add(field.getName());
                expect(Modifier.isPublic(modifiers) && Modifier.isStatic(modifiers) && Modifier.isFinal(modifiers)
                    && field.getType() == int.class, field.getName() + " is a public constant");
            }
            expect(!Modifier.isStatic(modifiers) || Modifier.isFinal(modifiers), field.getName() + " is final");
        }
        expect(seen.equals(Set.of("BAD", "FULL", "FINDING", "STATE", "SPENT", "NONE")), "constants: " + seen);
    }

    private static void theCalls() {
        Set<String> due = new TreeSet<>(Set.of(CALLS));
        Set<String> names = new TreeSet<>();
        for (String call : CALLS) {
            names.add(call.substring(call.indexOf(' ') + 1, call.indexOf('(')));
        }
        Set<String> seen = new TreeSet<>();
        for (Method method : RoofLent.class.getDeclaredMethods()) {
            if (isPrivate(method.getModifiers())) {
                expect(!names.contains(method.getName()), "private, but named as a call: " + method);
            } else {
                seen.add(signature(method));
                expect(Modifier.isPublic(method.getModifiers()) && !Modifier.isStatic(method.getModifiers()),
                    "neither private nor a call: " + method);
            }
        }
        expect(seen.equals(due), "calls: " + seen);
    }

    private static String signature(Method method) {
        StringBuilder text = new StringBuilder();
        for (Class<?> type : method.getParameterTypes()) {
            text.append(text.length() == 0 ? "" : ",").append(type.getName());
        }
        return method.getReturnType().getName() + " " + method.getName() + "(" + text + ")";
    }

    private static void theClassesInside() {
        Class<?>[] inside = RoofLent.class.getDeclaredClasses();
        expect(inside.length <= 13, "some twelve classes at most");
        for (Class<?> each : inside) {
            int modifiers = each.getModifiers();
            expect(Modifier.isStatic(modifiers), each + " is static");
            expect(!Modifier.isPublic(modifiers) && !Modifier.isProtected(modifiers), each + " is not seen outside");
            expect(fieldsBesideConstants(each) <= 22, each + " has some twenty fields at most");
        }
    }

    private static int fieldsBesideConstants(Class<?> each) {
        int count = 0;
        for (Field field : each.getDeclaredFields()) {
            count += Modifier.isStatic(field.getModifiers()) ? 0 : 1;
        }
        return count;
    }
}
