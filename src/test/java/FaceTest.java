import java.lang.reflect.Constructor;
import java.lang.reflect.Field;
import java.lang.reflect.Method;
import java.lang.reflect.Modifier;
import java.util.Arrays;
import java.util.Set;
import java.util.TreeSet;

/** The class shows the document's face and nothing else. */
public final class FaceTest {
    private static final String[] FACE = {
        "boy(int,int):int", "like(int,int,int):boolean", "knew(int,int,boolean):boolean", "state(int):int",
        "feed(int,int,int,int,int):int", "end(int):boolean", "text(int,int):int", "fault(int):int", "force(int):int",
        "day(int,int,int):int", "plan(int):int", "of(int,int):int", "lot(int,int):int", "kept(int,int):int",
        "beans(int,int,int):int", "seen(int,int):int", "led(int,int,boolean,int):int", "least(int,int):int",
        "back(int):int", "row(int):int", "parts(int,int,int):int", "told(int,int):boolean", "off(int,int):int",
        "fitting(int):int", "number(int,int):boolean", "cut(int):int", "woods(int,int):int", "image(boolean):boolean",
        "look(int):int"};

    public static void main(String[] args) {
        Checks c = new Checks();
        Set<String> shown = new TreeSet<>();
        for (Method m : TwoCamps.class.getDeclaredMethods()) {
            String name = spelled(m);
            if (!Modifier.isPrivate(m.getModifiers())) {
                shown.add(name);
                c.due(name + " is public, not static", m.getModifiers(), Modifier.PUBLIC);
            }
        }
        c.due("the methods shown: " + shown, shown.equals(new TreeSet<>(Arrays.asList(FACE))), true);
        for (Field f : TwoCamps.class.getDeclaredFields()) {
            boolean none = f.getName().equals("NONE");
            int want = Modifier.PUBLIC | Modifier.STATIC | Modifier.FINAL;
            c.due("field " + f.getName(), none ? f.getModifiers() == want : Modifier.isPrivate(f.getModifiers()), true);
            c.due("static " + f.getName(), !Modifier.isStatic(f.getModifiers()) || Modifier.isFinal(f.getModifiers()),
                    true);
        }
        Constructor<?>[] made = TwoCamps.class.getDeclaredConstructors();
        c.due("constructors", made.length, 1);
        c.due("the constructor's arguments", made[0].getParameterCount(), 0);
        c.due("the constructor is public", made[0].getModifiers(), Modifier.PUBLIC);
        c.due("the class", TwoCamps.class.getModifiers(), Modifier.PUBLIC | Modifier.FINAL);
        for (Class<?> inner : TwoCamps.class.getDeclaredClasses()) {
            c.due(inner + " is private and static", inner.getModifiers() & (Modifier.PRIVATE | Modifier.STATIC),
                    Modifier.PRIVATE | Modifier.STATIC);
            for (Method m : inner.getDeclaredMethods()) {
                boolean taken = Arrays.stream(FACE).anyMatch(face -> face.startsWith(m.getName() + "("));
                c.due(inner + "." + m.getName() + " bears a public name", taken, false);
            }
        }
        c.due("NONE", TwoCamps.NONE, -1);
        c.end("FaceTest");
    }

    private static String spelled(Method m) {
        StringBuilder s = new StringBuilder(m.getName()).append('(');
        for (Class<?> type : m.getParameterTypes()) {
            s.append(s.charAt(s.length() - 1) == '(' ? "" : ",").append(type.getName());
        }
        return s.append("):").append(m.getReturnType().getName()).toString();
    }
}
