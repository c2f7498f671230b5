import java.util.ArrayList;
import java.util.Arrays;
import java.util.Collections;
import java.util.List;
import java.util.Random;
import java.util.TreeMap;

/**
 * Runs of just 512 calls of an object, each by a draw of all 23, compared with PlainModel. Objects
 * are called in turn, so that one would be seen to change another; some runs are played twice.
 */
final class MixedRunsTest {
    private static final Check CHECK = new Check();
    /** "An object is used for at most 512 calls after it has been made". */
    private static final int CALLS = 512;
    private static final int ROUNDS = 120;
    private static final int SIDE_BY_SIDE = 4;
    private static final int MANY = 20;

    /** All calls, with the answers below 0 that the document tells of each. */
    private static final String[] FACE = {
        "letter OUTSIDE FULL", "blank", "fault", "cellar STATE", "cask NONE UNKNOWN OUTSIDE",
        "person OUTSIDE STATE FULL", "about UNKNOWN OUTSIDE", "as NONE UNKNOWN OUTSIDE", "drink UNKNOWN STATE",
        "pour UNKNOWN OUTSIDE STATE", "table OUTSIDE STATE", "blend NONE OUTSIDE STATE", "top NONE UNKNOWN OUTSIDE",
        "trial UNKNOWN FULL", "forget", "births OUTSIDE STATE", "ask NONE OUTSIDE STATE",
        "topped NONE UNKNOWN OUTSIDE", "feasts OUTSIDE STATE", "image STATE", "restore STATE", "count OUTSIDE",
        "digest"};
    /** How often a call stands in the bag of a run; eight times lets letters and trials pile up. */
    private static final int[] OFTEN = {1, 1, 2, 8};
    private static final int[] ODD = {-1, Integer.MIN_VALUE, Integer.MAX_VALUE, 5, 9, 20, 61, 100, 127, 1 << 30};

    /** How often each call gave each sort of answer: a run in which some never come would show little. */
    private static final TreeMap<String, Integer> SEEN = new TreeMap<>();

    private final WineByYears x = new WineByYears();
    private final PlainModel model = new PlainModel();
    private final Random random;
    private final int run;
    /** All calls, some of them more often than others, by the run. */
    private final List<Integer> bag = new ArrayList<>();
    /** What is still to be told of a cellar's text, letter by letter, with all sorts of calls between. */
    private String unwritten = "";
    private final long[] answers = new long[CALLS];
    private int calls = 0;

    private MixedRunsTest(int run) {
        this.run = run;
        this.random = new Random(31L * run + 7);
        for (int call = 0; call < FACE.length; call++) {
            bag.addAll(Collections.nCopies(OFTEN[random.nextInt(OFTEN.length)], call));
        }
    }

    public static void main(String[] args) {
        for (int round = 0; round < ROUNDS; round++) {
            sideBySide(round);
        }
        for (String told : FACE) {
            seen(told.split(" "));
        }
        CHECK.end();
    }

    /** Some runs in turn, call by call, and the first of them once more by itself. */
    private static void sideBySide(int round) {
        List<MixedRunsTest> runs = new ArrayList<>();
        for (int i = 0; i < SIDE_BY_SIDE; i++) {
            runs.add(new MixedRunsTest(SIDE_BY_SIDE * round + i));
        }
        for (int call = 0; call < CALLS; call++) {
            for (MixedRunsTest one : runs) {
                one.next();
            }
        }
        MixedRunsTest again = new MixedRunsTest(SIDE_BY_SIDE * round);
        for (int call = 0; call < CALLS; call++) {
            again.next();
        }
        CHECK.due("run " + again.run + " answers the same again",
            Arrays.equals(again.answers, runs.get(0).answers) ? 1 : 0, 1);
    }

    private static void seen(String[] told) {
        for (String answer : new String[] {"NONE", "UNKNOWN", "OUTSIDE", "STATE", "FULL"}) {
            boolean due = Arrays.asList(told).indexOf(answer) > 0;
            int times = SEEN.getOrDefault(told[0] + " " + answer, 0);
            CHECK.due(told[0] + " answered " + answer + " " + times + " times, as it is told",
                due ? times >= MANY ? 1 : 0 : times, due ? 1 : 0);
        }
        int times = SEEN.getOrDefault(told[0] + " a number", 0);
        CHECK.due(told[0] + " answered a number " + times + " times", times >= MANY ? 1 : 0, 1);
    }

    private static String sortOf(int call, long answer) {
        // A digest can be any long.
        if (answer >= 0 || call == FACE.length - 1) {
            return "a number";
        }
        switch ((int) answer) {
            case WineByYears.NONE: return "NONE";
            case WineByYears.UNKNOWN: return "UNKNOWN";
            case WineByYears.OUTSIDE: return "OUTSIDE";
            case WineByYears.STATE: return "STATE";
            case WineByYears.FULL: return "FULL";
            default: return "what is not told: " + answer;
        }
    }

    private void next() {
        int call = drawnCall();
        String name = FACE[call].split(" ")[0];
        int a = number(call, 0);
        int b = number(call, 1);
        int c = number(call, 2);
        long got = ofObject(call, a, b, c);
        CHECK.due("run " + run + ", call " + (calls + 1) + ": " + name + " (" + a + ", " + b + ", " + c + ")",
            got, ofModel(call, a, b, c));
        SEEN.merge(name + " " + sortOf(call, got), 1, Integer::sum);
        answers[calls] = got;
        calls++;
    }

    /** Any call, but letters of a cellar's text more often, for a cellar is read by 8 calls at least. */
    private int drawnCall() {
        if (unwritten.isEmpty()) {
            boolean begins = model.count(1) == 0 ? random.nextInt(20) == 0 : random.nextInt(150) == 0;
            if (!begins) {
                return bag.get(random.nextInt(bag.size()));
            }
            // A blank page comes first (1), then the letters (0), then the cellar is read (3).
            unwritten = "b" + text() + "r";
        }
        if (random.nextInt(3) == 0) {
            int other = bag.get(random.nextInt(bag.size()));
            return other == 0 || other == 1 ? FACE.length - 1 : other;
        }
        char sign = unwritten.charAt(0);
        if (sign != 'b' && sign != 'r') {
            return 0;
        }
        unwritten = unwritten.substring(1);
        return sign == 'b' ? 1 : 3;
    }

    private String text() {
        int span = 1 + random.nextInt(10);
        StringBuilder text = new StringBuilder().append(random.nextInt(4)).append(';');
        int casks = 2 + random.nextInt(5);
        for (int cask = 0; cask < casks; cask++) {
            text.append(cask == 0 ? "" : ",").append(9 - random.nextInt(span));
            text.append(random.nextInt(6) == 0 ? 0 : 9 - random.nextInt(10) % (1 + random.nextInt(10)));
        }
        // Six casks are more than a cellar has, and a page ends within the sixth.
        return text.substring(0, Math.min(text.length(), 18));
    }

    /** Mostly a number that the call takes, now and then another one. */
    private int number(int call, int place) {
        if (call == 0 && place == 0 && !unwritten.isEmpty()) {
            char sign = unwritten.charAt(0);
            unwritten = unwritten.substring(1);
            return random.nextInt(80) == 0 ? ' ' + random.nextInt(95) : sign;
        }
        if (random.nextInt(30) == 0) {
            return ODD[random.nextInt(ODD.length)];
        }
        if (call == 9 && place == 1 && random.nextBoolean()) {
            return fullest();
        }
        int casks = model.count(1) + random.nextInt(12) / 11;
        int people = model.count(3) + random.nextInt(12) / 11;
        int[][] bounds = {
            {128}, {}, {}, {}, {casks, 20}, {5, 10}, {people, 4}, {people, 5}, {people, casks}, {casks, casks, 10},
            {1 << people}, {1 << people, random.nextBoolean() ? 12 : 100, 2}, {1 << people, casks, 2}, {casks, 2}, {},
            {5}, {5}, {casks, 1 << people, 2}, {61, Integer.MAX_VALUE, 3}, {}, {}, {8}, {}};
        int bound = place < bounds[call].length ? bounds[call][place] : 1;
        int edge = random.nextInt(40);
        return edge == 0 ? 0 : edge == 1 ? bound : random.nextInt(Math.max(1, bound));
    }

    /** The cask that has most, so that now and then one becomes full. */
    private int fullest() {
        int best = 0;
        for (int cask = 1; cask < model.count(1); cask++) {
            best = model.cask(cask, 0) > model.cask(best, 0) ? cask : best;
        }
        return best;
    }

    private long ofObject(int call, int a, int b, int c) {
        switch (call) {
            case 0: return x.letter(a);
            case 1: return x.blank();
            case 2: return x.fault();
            case 3: return x.cellar();
            case 4: return x.cask(a, b);
            case 5: return x.person(a, b);
            case 6: return x.about(a, b);
            case 7: return x.as(a, b);
            case 8: return x.drink(a, b);
            case 9: return x.pour(a, b, c);
            case 10: return x.table(a);
            case 11: return x.blend(a, b, c);
            case 12: return x.top(a, b, c);
            case 13: return x.trial(a, b == 0);
            case 14: return x.forget();
            case 15: return x.births(a);
            case 16: return x.ask(a);
            case 17: return x.topped(a, b, c);
            case 18: return x.feasts(a, b, c);
            case 19: return x.image();
            case 20: return x.restore();
            case 21: return x.count(a);
            default: return x.digest();
        }
    }

    private long ofModel(int call, int a, int b, int c) {
        switch (call) {
            case 0: return model.letter(a);
            case 1: return model.blank();
            case 2: return model.fault();
            case 3: return model.cellar();
            case 4: return model.cask(a, b);
            case 5: return model.person(a, b);
            case 6: return model.about(a, b);
            case 7: return model.as(a, b);
            case 8: return model.drink(a, b);
            case 9: return model.pour(a, b, c);
            case 10: return model.table(a);
            case 11: return model.blend(a, b, c);
            case 12: return model.top(a, b, c);
            case 13: return model.trial(a, b == 0);
            case 14: return model.forget();
            case 15: return model.births(a);
            case 16: return model.ask(a);
            case 17: return model.topped(a, b, c);
            case 18: return model.feasts(a, b, c);
            case 19: return model.image();
            case 20: return model.restore();
            case 21: return model.count(a);
            default: return model.digest();
        }
    }
}
