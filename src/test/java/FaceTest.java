import java.lang.reflect.Field;
import java.lang.reflect.Method;
import java.lang.reflect.Modifier;
import java.util.Arrays;
import java.util.Set;
import java.util.TreeSet;

/** The public face: all that the document names, and nothing else that is not private. */
public final class FaceTest {
    private static final Checks CHECKS = new Checks("FaceTest");
    private static final String FACE = "feed:int:5 house:int:1 fault:int:0 where:int:0 ring:int:2 thing:int:2 at:int:2 narrow:int:2 "
        + "ahead:int:1 goes:int:0 blocked:int:0 meeting:int:0 behind:int:2 when:int:3 meets:int:2 still:int:0 period:int:0 "
        + "steps:int:2 meetings:int:3 mostMeet:int:0 toWiden:int:0 worstHeld:int:1 holds:int:4 putFor:int:3 holdsToMeet:int:3 "
        + "pays:int:1 best:int:1 bestPays:int:1 kept:int:0 rules:int:0 ruleAt:int:1 there:int:2 surely:int:1 look:int:0 "
        + "lookLeaves:int:0 heir:int:4 rests:int:1 rest:int:1 damp:int:3 dampSteps:int:2 dampWhen:int:4 hold:boolean:1 "
        + "let:boolean:1 put:boolean:3 night:int:0 undo:boolean:0 image:int:0 back:boolean:1 led:int:1 size:int:1 trouble:int:0";

    private FaceTest() {
    }

    public static void main(String[] args) {
        Set<String> due = new TreeSet<>(Arrays.asList(FACE.split(" ")));
        Set<String> names = new TreeSet<>();
        for (Method m : NightRound.class.getDeclaredMethods()) {
            String row = m.getName() + ":" + m.getReturnType().getName() + ":" + m.getParameterCount();
            if (Modifier.isPublic(m.getModifiers())) {
                CHECKS.due(row + " is of the face", due.contains(row), true);
                names.add(m.getName());
            } else {
                CHECKS.due(row + " is private", Modifier.isPrivate(m.getModifiers()), true);
            }
        }
        CHECKS.due("public methods", names.size(), due.size());
        for (Method m : NightRound.class.getDeclaredMethods()) {
            boolean isHidden = !Modifier.isPublic(m.getModifiers());
            CHECKS.due(m.getName() + " bears a public name", isHidden && names.contains(m.getName()), false);
        }
        fields();
        CHECKS.due("final", Modifier.isFinal(NightRound.class.getModifiers()), true);
        CHECKS.due("constructors", NightRound.class.getConstructors().length, 1);
        CHECKS.due("NONE", NightRound.NONE, -1);
        CHECKS.end();
    }

    private static void fields() {
        for (Field f : NightRound.class.getDeclaredFields()) {
            boolean isPublic = Modifier.isPublic(f.getModifiers());
            CHECKS.due("field " + f.getName(), isPublic ? f.getName().equals("NONE") : Modifier.isPrivate(f.getModifiers()), true);
            boolean isLoose = Modifier.isStatic(f.getModifiers()) && !Modifier.isFinal(f.getModifiers());
            CHECKS.due("static field " + f.getName() + " that changes", isLoose, false);
        }
    }
}
