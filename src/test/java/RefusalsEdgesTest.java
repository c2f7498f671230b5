import java.util.List;
import java.util.TreeSet;
import java.util.function.Supplier;

/** "Refusals .. change nothing": every call, in states of all sorts, with numbers of all sizes. */
final class RefusalsEdgesTest {
    private static final Check CHECK = new Check();
    private static final int[] NUMBERS = {Integer.MIN_VALUE, -1, 0, 1, 2, 5, 10, 32, 100, Integer.MAX_VALUE};
    private static final int[] ANY = {0};

    private interface Asked {
        int answer(WineByYears x, int a, int b, int c);
    }

    /** A call, how many numbers it is told, and how the document says that it refuses. */
    private record Call(String name, int numbers, String refusals, Asked asked) {
    }

    private static final List<Call> CALLS = List.of(
        new Call("letter", 1, "OUTSIDE FULL", (x, a, b, c) -> x.letter(a)),
        new Call("blank", 0, "", (x, a, b, c) -> x.blank()),
        new Call("fault", 0, "", (x, a, b, c) -> x.fault()),
        new Call("cellar", 0, "STATE", (x, a, b, c) -> x.cellar()),
        new Call("cask", 2, "UNKNOWN OUTSIDE", (x, a, b, c) -> x.cask(a, b)),
        new Call("person", 2, "OUTSIDE STATE FULL", (x, a, b, c) -> x.person(a, b)),
        new Call("about", 2, "UNKNOWN OUTSIDE", (x, a, b, c) -> x.about(a, b)),
        new Call("as", 2, "UNKNOWN OUTSIDE", (x, a, b, c) -> x.as(a, b)),
        new Call("drink", 2, "UNKNOWN STATE", (x, a, b, c) -> x.drink(a, b)),
        new Call("pour", 3, "UNKNOWN OUTSIDE STATE", (x, a, b, c) -> x.pour(a, b, c)),
        new Call("table", 1, "OUTSIDE STATE", (x, a, b, c) -> x.table(a)),
        new Call("blend", 3, "OUTSIDE STATE", (x, a, b, c) -> x.blend(a, b, c)),
        new Call("top", 3, "UNKNOWN OUTSIDE", (x, a, b, c) -> x.top(a, b, c)),
        new Call("trial", 2, "UNKNOWN FULL", (x, a, b, c) -> x.trial(a, b > 0)),
        new Call("forget", 0, "", (x, a, b, c) -> x.forget()),
        new Call("births", 1, "OUTSIDE STATE", (x, a, b, c) -> x.births(a)),
        new Call("ask", 1, "OUTSIDE STATE", (x, a, b, c) -> x.ask(a)),
        new Call("topped", 3, "UNKNOWN OUTSIDE", (x, a, b, c) -> x.topped(a, b, c)),
        new Call("feasts", 3, "OUTSIDE STATE", (x, a, b, c) -> x.feasts(a, b, c)),
        new Call("image", 0, "STATE", (x, a, b, c) -> x.image()),
        new Call("restore", 0, "STATE", (x, a, b, c) -> x.restore()),
        new Call("count", 1, "OUTSIDE", (x, a, b, c) -> x.count(a)));

    private static final List<Supplier<WineByYears>> STATES = List.of(
        WineByYears::new,
        () -> Check.pageOf("0;12,34,5"),
        () -> Check.cellarOf("1;50,60"),
        Check::busy,
        RefusalsEdgesTest::full);

    public static void main(String[] args) {
        CHECK.words("Refusals, of several the first as told by each call: .. they change nothing");
        for (Call call : CALLS) {
            TreeSet<String> seen = new TreeSet<>();
            for (Supplier<WineByYears> state : STATES) {
                askAll(call, state, seen);
            }
            TreeSet<String> told = new TreeSet<>(List.of(call.refusals.split(" ")));
            told.remove("");
            CHECK.due(call.name + " refuses by " + seen + ", told are " + told, seen.equals(told) ? 1 : 0, 1);
        }
        CHECK.end();
    }

    /** Of all that there can be there are as many as there can be, and an image of fewer. */
    private static WineByYears full() {
        WineByYears x = Check.witches("3;19,29,39,49,00", 4);
        x.trial(0, true);
        x.image();
        x.person(2, 9);
        x.pour(1, 0, 9);
        x.pour(2, 0, 2);
        x.drink(4, 2);
        for (int trial = 2; trial <= 8; trial++) {
            x.trial(trial % 5, trial % 2 == 0);
        }
        Check.write(x, "0;12,34,56,78,90,1");
        return x;
    }

    private static void askAll(Call call, Supplier<WineByYears> state, TreeSet<String> seen) {
        for (int a : call.numbers > 0 ? NUMBERS : ANY) {
            for (int b : call.numbers > 1 ? NUMBERS : ANY) {
                for (int c : call.numbers > 2 ? NUMBERS : ANY) {
                    int got = call.asked.answer(state.get(), a, b, c);
                    String refusal = nameOf(got);
                    if (!refusal.isEmpty()) {
                        seen.add(refusal);
                        CHECK.unchanged(call.name + "(" + a + ", " + b + ", " + c + ")", state,
                            x -> call.asked.answer(x, a, b, c), got);
                    }
                }
            }
        }
    }

    private static String nameOf(int answer) {
        switch (answer) {
            case WineByYears.UNKNOWN: return "UNKNOWN";
            case WineByYears.OUTSIDE: return "OUTSIDE";
            case WineByYears.STATE: return "STATE";
            case WineByYears.FULL: return "FULL";
            default: return "";
        }
    }
}
