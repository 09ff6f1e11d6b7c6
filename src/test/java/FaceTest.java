import java.lang.reflect.Constructor;
import java.lang.reflect.Field;
import java.lang.reflect.Method;
import java.lang.reflect.Modifier;
import java.util.Set;
import java.util.TreeSet;

/** The class shows the document's public face, and nothing besides. */
public final class FaceTest {
    private static final Set<String> FACE = Set.of(
        "public static final int EspAntiReplay.GOOD",
        "public static final int EspAntiReplay.REPLAY",
        "public static final int EspAntiReplay.EARLY",
        "public static final int EspAntiReplay.FORGED",
        "public static final int EspAntiReplay.DEAD",
        "public EspAntiReplay(int)",
        "public int EspAntiReplay.window()",
        "public int EspAntiReplay.receive(int,int,int)",
        "public int EspAntiReplay.burst(int,int,int,int)",
        "public int EspAntiReplay.rekey(int)",
        "public int EspAntiReplay.limits(int,int,int)",
        "public int EspAntiReplay.top(int)",
        "public int EspAntiReplay.accepted(int)",
        "public int EspAntiReplay.dead(int)",
        "public int EspAntiReplay.aging(int)",
        "public int EspAntiReplay.count(int,int)",
        "public int EspAntiReplay.numberFor(int,int)",
        "public int EspAntiReplay.has(int,int)",
        "public int EspAntiReplay.inWindow(int)",
        "public int EspAntiReplay.lost(int)",
        "public int EspAntiReplay.gap(int)");

    public static void main(String[] args) {
        Class<?> c = EspAntiReplay.class;
        Set<String> seen = new TreeSet<>();
        Due due = new Due();
        due.part("face");
        due.is("modifiers of the class", c.getModifiers(), Modifier.PUBLIC | Modifier.FINAL);
        due.is("nested classes", c.getDeclaredClasses().length, 0);
        for (Field f : c.getDeclaredFields()) if (!Modifier.isPrivate(f.getModifiers())) seen.add(f.toString());
        for (Constructor<?> k : c.getDeclaredConstructors()) seen.add(k.toString());
        for (Method m : c.getDeclaredMethods()) if (!Modifier.isPrivate(m.getModifiers())) seen.add(m.toString());
        for (String member : FACE) due.is("has " + member, seen.contains(member) ? 1 : 0, 1);
        for (String member : seen) due.is("rules out " + member, FACE.contains(member) ? 0 : 1, 0);
        due.finish();
    }
}
