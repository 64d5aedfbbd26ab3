import java.io.IOException;
import java.lang.reflect.Field;
import java.lang.reflect.Method;
import java.lang.reflect.Modifier;
import java.nio.file.Files;
import java.nio.file.Path;
import java.util.ArrayList;
import java.util.Arrays;
import java.util.List;
import java.util.Set;
import java.util.TreeSet;

/** The public face: all that the document names, as it is written there, and nothing else that is not private. */
public final class FaceTest {
    private static final Checks CHECKS = new Checks("FaceTest");
    private static final String FACE = "feed:int:5 house:int:1 fault:int:0 where:int:0 ring:int:2 thing:int:2 at:int:2 narrow:int:2 "
        + "ahead:int:1 goes:int:0 blocked:int:0 meeting:int:0 behind:int:2 when:int:3 meets:int:2 still:int:0 period:int:0 "
        + "steps:int:2 meetings:int:3 mostMeet:int:0 toWiden:int:0 worstHeld:int:1 holds:int:4 putFor:int:3 holdsToMeet:int:3 "
        + "pays:int:1 best:int:1 bestPays:int:1 kept:int:0 rules:int:0 ruleAt:int:1 there:int:2 surely:int:1 look:int:0 "
        + "lookLeaves:int:0 heir:int:4 rests:int:1 rest:int:1 damp:int:3 dampSteps:int:2 dampWhen:int:4 hold:boolean:1 "
        + "let:boolean:1 put:boolean:3 night:int:0 undo:boolean:0 image:int:0 back:boolean:1 led:int:1 size:int:1 trouble:int:0";

    private FaceTest() {
    }

    public static void main(String[] args) throws IOException {
        Set<String> due = new TreeSet<>(Arrays.asList(FACE.split(" ")));
        Set<String> names = new TreeSet<>();
        for (Method m : NightRound.class.getDeclaredMethods()) {
            String row = m.getName() + ":" + m.getReturnType().getName() + ":" + m.getParameterCount();
            if (Modifier.isPublic(m.getModifiers())) {
                CHECKS.due(row + " is of the face", due.contains(row), true);
                names.add(m.getName());
            } else {
                CHECKS.due(row + " is private", Modifier.isPrivate(m.getModifiers()), true);
            }
        }
        CHECKS.due("public methods", names.size(), due.size());
        for (Method m : NightRound.class.getDeclaredMethods()) {
            boolean isHidden = !Modifier.isPublic(m.getModifiers());
            CHECKS.due(m.getName() + " bears a public name", isHidden && names.contains(m.getName()), false);
        }
        fields();
        asWritten();
        within(names);
        CHECKS.due("final", Modifier.isFinal(NightRound.class.getModifiers()), true);
        CHECKS.due("constructors", NightRound.class.getConstructors().length, 1);
        CHECKS.due("NONE", NightRound.NONE, -1);
        CHECKS.end();
    }

    private static void fields() {
        for (Field f : NightRound.class.getDeclaredFields()) {
            boolean isPublic = Modifier.isPublic(f.getModifiers());
            CHECKS.due("field " + f.getName(), isPublic ? f.getName().equals("NONE") : Modifier.isPrivate(f.getModifiers()), true);
            boolean isLoose = Modifier.isStatic(f.getModifiers()) && !Modifier.isFinal(f.getModifiers());
            CHECKS.due("static field " + f.getName() + " that changes", isLoose, false);
        }
    }

    private static void asWritten() throws IOException {
        List<String> written = new ArrayList<>();
        for (String line : Files.readString(Path.of("src/main/java/NightRound.java")).split("\n")) {
            if (line.startsWith("    public ")) {
                written.add(line.trim().replaceAll(" \\{$", ";"));
            }
        }
        List<String> face = new Document().face();
        for (int i = 0; i < face.size(); i++) {
            CHECKS.due("member " + i, i < written.size() ? written.get(i) : "none", face.get(i));
        }
        CHECKS.due("members", face.isEmpty() || written.size() == face.size(), true);
    }

    private static void within(Set<String> names) {
        for (Class<?> c : NightRound.class.getDeclaredClasses()) {
            CHECKS.due(c.getName() + " is private and static", Modifier.isPrivate(c.getModifiers()) && Modifier.isStatic(c.getModifiers()), true);
            for (Method m : c.getDeclaredMethods()) {
                CHECKS.due(m + " bears a public name", names.contains(m.getName()), false);
            }
            long own = Arrays.stream(c.getDeclaredFields()).filter(f -> !Modifier.isStatic(f.getModifiers())).count();
            CHECKS.due("fields of " + c.getName() + ", at most 20", own <= 20, true);
        }
    }
}
