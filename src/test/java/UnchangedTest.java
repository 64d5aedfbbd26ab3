import java.util.LinkedHashMap;
import java.util.Map;
import java.util.function.ToLongFunction;

/** A call that is refused, and a question, change nothing: an object that had it goes on as its twin that hadn't. */
public final class UnchangedTest {
    private static final Checks CHECKS = new Checks("UnchangedTest");

    private UnchangedTest() {
    }

    public static void main(String[] args) {
        refusedCalls();
        withoutHouse();
        questions();
        CHECKS.end();
    }

    private static long of(boolean answer) {
        return answer ? 1 : 0;
    }

    private static void unchanged(String call, NightRound x, NightRound twin) {
        CHECKS.due("all behind " + call, Twins.seen(x), Twins.seen(twin));
    }

    private static void refusedCalls() {
        Map<String, ToLongFunction<NightRound>> calls = new LinkedHashMap<>();
        calls.put("1 ring(4, 0)", x -> x.ring(4, 0));
        calls.put("1 ring(0, 4)", x -> x.ring(0, 4));
        calls.put("1 thing(7, 0)", x -> x.thing(7, 0));
        calls.put("1 at(0, 9)", x -> x.at(0, 9));
        calls.put("1 narrow(0, 9)", x -> x.narrow(0, 9));
        calls.put("1 ahead(7)", x -> x.ahead(7));
        calls.put("1 behind(7, 1)", x -> x.behind(7, 1));
        calls.put("2 behind(0, 201)", x -> x.behind(0, 201));
        calls.put("1 when(0, 4, 0)", x -> x.when(0, 4, 0));
        calls.put("1 meets(0, 0)", x -> x.meets(0, 0));
        calls.put("1 steps(7, 1)", x -> x.steps(7, 1));
        calls.put("2 steps(0, 201)", x -> x.steps(0, 201));
        calls.put("1 meetings(0, 0, 1)", x -> x.meetings(0, 0, 1));
        calls.put("2 meetings(0, 1, 201)", x -> x.meetings(0, 1, 201));
        calls.put("2 worstHeld(61)", x -> x.worstHeld(61));
        calls.put("1 holds(0, 0, 9, 1)", x -> x.holds(0, 0, 9, 1));
        calls.put("2 holds(0, 0, 0, 31)", x -> x.holds(0, 0, 0, 31));
        calls.put("1 putFor(0, 9, 1)", x -> x.putFor(0, 9, 1));
        calls.put("2 putFor(0, 0, 61)", x -> x.putFor(0, 0, 61));
        calls.put("1 holdsToMeet(0, 0, 1)", x -> x.holdsToMeet(0, 0, 1));
        calls.put("2 holdsToMeet(0, 1, 31)", x -> x.holdsToMeet(0, 1, 31));
        calls.put("2 pays(61)", x -> x.pays(61));
        calls.put("2 best(61)", x -> x.best(61));
        calls.put("2 bestPays(61)", x -> x.bestPays(61));
        calls.put("1 ruleAt(572)", x -> x.ruleAt(572));
        calls.put("2 there(100, 0)", x -> x.there(100, 0));
        calls.put("2 surely(100)", x -> x.surely(100));
        calls.put("2 rests(100)", x -> x.rests(100));
        calls.put("2 rest(100)", x -> x.rest(100));
        calls.put("1 damp(7, 0, 0)", x -> x.damp(7, 0, 0));
        calls.put("2 damp(0, 65537, 0)", x -> x.damp(0, 65_537, 0));
        calls.put("2 dampSteps(0, 61)", x -> x.dampSteps(0, 61));
        calls.put("1 dampWhen(0, 9, 0, 0)", x -> x.dampWhen(0, 9, 0, 0));
        calls.put("2 dampWhen(0, 0, 0, 61)", x -> x.dampWhen(0, 0, 0, 61));
        calls.put("1 hold(7)", x -> of(x.hold(7)) - 1);
        calls.put("5 hold(3)", x -> of(x.hold(3)) - 1);
        calls.put("1 let(7)", x -> of(x.let(7)) - 1);
        calls.put("5 let(0)", x -> of(x.let(0)) - 1);
        calls.put("1 put(0, 0, 9)", x -> of(x.put(0, 0, 9)) - 1);
        calls.put("5 put(3, 0, 3)", x -> of(x.put(3, 0, 3)) - 1);
        calls.put("5 put(0, 3, 0)", x -> of(x.put(0, 3, 0)) - 1);
        calls.put("1 back(2)", x -> of(x.back(2)) - 1);
        calls.put("1 back(-1)", x -> of(x.back(-1)) - 1);
        calls.put("2 house(61)", x -> x.house(61));
        calls.put("2 house(-1)", x -> x.house(-1));
        CHECKS.term("TROUBLE of the latest call that may be refused");
        calls.forEach((call, asked) -> {
            NightRound x = Twins.busy();
            CHECKS.refused(call, x, asked.applyAsLong(x), call.charAt(0) - '0');
            unchanged(call, x, Twins.busy());
        });
        NightRound x = Twins.busy();
        CHECKS.due("heir(100, 0, 0, false)", x.heir(100, 0, 0, false), -100);
        unchanged("heir(100, 0, 0, false)", x, Twins.busy());
        full();
    }

    private static NightRound withImages() {
        NightRound x = Twins.busy();
        x.image();
        return x;
    }

    private static void full() {
        NightRound images = withImages();
        CHECKS.refused("image()", images, images.image(), 3);
        unchanged("image()", images, withImages());
        NightRound none = Told.house(Twins.TEXT);
        CHECKS.refused("undo()", none, none.undo(), 6);
        unchanged("undo()", none, Told.house(Twins.TEXT));
    }

    /** Each call of a house is refused without one, and there is none afterwards either. */
    private static void withoutHouse() {
        CHECKS.promise(1, "No HOUSE.");
        for (Map.Entry<String, ToLongFunction<NightRound>> call : ordinary().entrySet()) {
            NightRound x = new NightRound();
            CHECKS.due(call.getKey(), call.getValue().applyAsLong(x), call.getKey().startsWith("heir") ? -100 : -1);
            CHECKS.due(call.getKey() + ", trouble", x.trouble(), 1);
            unchanged(call.getKey(), x, new NightRound());
        }
        Map<String, ToLongFunction<NightRound>> acts = new LinkedHashMap<>();
        acts.put("1 hold(0)", x -> of(x.hold(0)) - 1);
        acts.put("1 let(0)", x -> of(x.let(0)) - 1);
        acts.put("1 put(0, 0, 0)", x -> of(x.put(0, 0, 0)) - 1);
        acts.put("1 night()", x -> x.night());
        acts.put("6 undo()", x -> of(x.undo()) - 1);
        acts.put("1 image()", x -> x.image());
        acts.put("1 back(0)", x -> of(x.back(0)) - 1);
        acts.forEach((call, asked) -> {
            NightRound x = new NightRound();
            CHECKS.refused(call, x, asked.applyAsLong(x), call.charAt(0) - '0');
            unchanged(call, x, new NightRound());
        });
    }

    private static Map<String, ToLongFunction<NightRound>> ordinary() {
        Map<String, ToLongFunction<NightRound>> calls = new LinkedHashMap<>();
        calls.put("ring(0, 2)", x -> x.ring(0, 2));
        calls.put("thing(0, 4)", x -> x.thing(0, 4));
        calls.put("at(0, 0)", x -> x.at(0, 0));
        calls.put("narrow(0, 0)", x -> x.narrow(0, 0));
        calls.put("ahead(0)", x -> x.ahead(0));
        calls.put("goes()", x -> x.goes());
        calls.put("blocked()", x -> x.blocked());
        calls.put("meeting()", x -> x.meeting());
        calls.put("behind(0, 200)", x -> x.behind(0, 200));
        calls.put("when(0, 0, 1)", x -> x.when(0, 0, 1));
        calls.put("meets(0, 1)", x -> x.meets(0, 1));
        calls.put("still()", x -> x.still());
        calls.put("period()", x -> x.period());
        calls.put("steps(0, 200)", x -> x.steps(0, 200));
        calls.put("meetings(0, 1, 200)", x -> x.meetings(0, 1, 200));
        calls.put("mostMeet()", x -> x.mostMeet());
        calls.put("toWiden()", x -> x.toWiden());
        calls.put("worstHeld(60)", x -> x.worstHeld(60));
        calls.put("holds(0, 0, 1, 30)", x -> x.holds(0, 0, 1, 30));
        calls.put("putFor(0, 1, 60)", x -> x.putFor(0, 1, 60));
        calls.put("holdsToMeet(0, 1, 30)", x -> x.holdsToMeet(0, 1, 30));
        calls.put("pays(60)", x -> x.pays(60));
        calls.put("best(60)", x -> x.best(60));
        calls.put("bestPays(60)", x -> x.bestPays(60));
        calls.put("kept()", x -> x.kept());
        calls.put("rules()", x -> x.rules());
        calls.put("ruleAt(0)", x -> x.ruleAt(0));
        calls.put("there(0, 0)", x -> x.there(0, 0));
        calls.put("surely(0)", x -> x.surely(0));
        calls.put("look()", x -> x.look());
        calls.put("lookLeaves()", x -> x.lookLeaves());
        calls.put("heir(9, 3, 3, true)", x -> x.heir(9, 3, 3, true));
        calls.put("rests(9)", x -> x.rests(9));
        calls.put("rest(9)", x -> x.rest(9));
        calls.put("damp(0, 1, 60)", x -> x.damp(0, 1, 60));
        calls.put("dampSteps(1, 60)", x -> x.dampSteps(1, 60));
        calls.put("dampWhen(0, 1, 1, 60)", x -> x.dampWhen(0, 1, 1, 60));
        return calls;
    }

    /** Only acts change what is NOW: a question answers the same again, and changes no other answer. */
    private static void questions() {
        CHECKS.term("ACTS: HOLD a thing, LET it go, PUT it (by day), NIGHT.");
        for (Map.Entry<String, ToLongFunction<NightRound>> call : ordinary().entrySet()) {
            NightRound x = Twins.busy();
            long first = call.getValue().applyAsLong(x);
            CHECKS.due(call.getKey() + ", trouble", x.trouble(), 0);
            for (ToLongFunction<NightRound> other : ordinary().values()) {
                other.applyAsLong(x);
            }
            CHECKS.given(call.getKey() + " again", x, call.getValue().applyAsLong(x), first);
            unchanged(call.getKey(), x, Twins.busy());
        }
    }
}
