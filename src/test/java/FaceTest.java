import java.lang.reflect.Constructor;
import java.lang.reflect.Field;
import java.lang.reflect.Method;
import java.lang.reflect.Modifier;
import java.util.Set;
import java.util.TreeSet;

/** The public face: exactly the members that the document lists, and every other member private. */
public final class FaceTest {
    private static final String[] FACE = {
        "public static final int BAD_ARG = -1000",
        "public static final int NONE = -2000",
        "public ZoneDesk()",
        "public int fresh(int)",
        "public int copy(int,int)",
        "public int constrain(int,int,int)",
        "public int meet(int,int)",
        "public int hull(int,int)",
        "public int delay(int)",
        "public int past(int)",
        "public int reset(int,int,int)",
        "public int forget(int,int)",
        "public boolean empty(int)",
        "public boolean has(int,int)",
        "public int bound(int,int)",
        "public int count(int)",
        "public boolean within(int,int)",
        "public boolean touches(int,int)",
        "public int least(int)",
        "public int spread(int,int)",
        "public int meeting(int,int)",
    };

    public static void main(String[] args) throws IllegalAccessException {
        Class<?> desk = ZoneDesk.class;
        Set<String> found = new TreeSet<>();
        for (Field f : desk.getDeclaredFields()) {
            if (!Modifier.isPrivate(f.getModifiers())) {
                found.add(Modifier.toString(f.getModifiers()) + " " + f.getType() + " " + f.getName()
                    + " = " + f.get(null));
            }
        }
        for (Constructor<?> c : desk.getDeclaredConstructors()) {
            if (!Modifier.isPrivate(c.getModifiers())) {
                found.add(c.toString());
            }
        }
        for (Method m : desk.getDeclaredMethods()) {
            if (!Modifier.isPrivate(m.getModifiers())) {
                found.add(m.toString().replace("ZoneDesk.", ""));
            }
        }
        Set<String> due = Set.of(FACE);
        int wrong = 0;
        for (String member : due) {
            if (!found.contains(member)) {
                wrong++;
                System.out.println("missing: " + member);
            }
        }
        for (String member : found) {
            if (!due.contains(member)) {
                wrong++;
                System.out.println("not in the document: " + member);
            }
        }
        if (!Modifier.toString(desk.getModifiers()).equals("public final")) {
            wrong++;
            System.out.println("the class is not public final");
        }
        System.out.println(wrong == 0 ? "the face is as due" : wrong + " faults in the face");
        if (wrong != 0) {
            System.exit(1);
        }
    }
}
