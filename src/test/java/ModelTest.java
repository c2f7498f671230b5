import java.util.Random;

/** Long runs of calls by fixed seeds, each compared with PlainModel: all promises together. */
final class ModelTest {
    private static final int RUNS = 800;
    /** Nothing is promised behind an object's 512th call. */
    private static final int CALLS = 512;
    /** A step writes a whole cellar at most (blank(), 16 letters, cellar()), and asks for the digest. */
    private static final int CALLS_OF_A_STEP = 19;
    private static final int[] ODD = {-1, Integer.MIN_VALUE, Integer.MAX_VALUE, 5, 32, 100, 1 << 30};

    private static final Check CHECK = new Check();

    private final WineByYears x = new WineByYears();
    private final PlainModel model = new PlainModel();
    private final Random random;
    private final int run;
    /** A run tells of few years and litres, or of many, so that ties and empty casks are common. */
    private final int span;
    private int calls = 0;

    private ModelTest(int run) {
        this.run = run;
        this.random = new Random(run);
        this.span = 2 + random.nextInt(9);
    }

    public static void main(String[] args) {
        for (int run = 0; run < RUNS; run++) {
            new ModelTest(run).play();
        }
        CHECK.end();
    }

    private void play() {
        while (calls + CALLS_OF_A_STEP <= CALLS) {
            if (random.nextInt(120) == 0 || calls > 20 && model.count(1) == 0) {
                writeCellar();
            } else {
                step(random.nextInt(26));
            }
            if (random.nextInt(3) == 0) {
                due("digest()", x.digest(), model.digest());
            }
        }
        while (calls < CALLS) {
            due("digest()", x.digest(), model.digest());
        }
    }

    /** The answer of one call of the object. */
    private void due(String call, long got, long want) {
        calls++;
        CHECK.due("run " + run + ": " + call, got, want);
    }

    /** Mostly a number below the bound, now and then one beyond it. */
    private int below(int bound) {
        int kind = random.nextInt(40);
        if (kind == 0) {
            return ODD[random.nextInt(ODD.length)];
        }
        return kind == 1 ? bound : random.nextInt(Math.max(1, bound));
    }

    private int people() {
        return below(1 << model.count(3));
    }

    private void writeCellar() {
        due("blank()", x.blank(), model.blank());
        int casks = 2 + random.nextInt(4);
        StringBuilder text = new StringBuilder().append(random.nextInt(4)).append(';');
        for (int cask = 0; cask < casks; cask++) {
            text.append(cask == 0 ? "" : ",");
            text.append(random.nextInt(span) * 9 / (span - 1));
            text.append(random.nextInt(random.nextBoolean() ? span : 10) % 10);
        }
        for (int i = 0; i < text.length(); i++) {
            due("letter(" + text.charAt(i) + ")", x.letter(text.charAt(i)), model.letter(text.charAt(i)));
        }
        due("cellar() of " + text, x.cellar(), model.cellar());
    }

    private void step(int which) {
        int casks = model.count(1);
        int a = below(casks);
        int b = below(casks);
        int person = below(model.count(3));
        int two = below(2);
        switch (which) {
            case 0: letter(); break;
            case 1: due("fault()", x.fault(), model.fault()); break;
            case 2: if (random.nextInt(5) == 0) due("blank()", x.blank(), model.blank()); break;
            case 3: due("cellar()", x.cellar(), model.cellar()); break;
            case 4: caskCall(a, below(20)); break;
            case 5: case 6: case 7: personCall(below(5), below(10)); break;
            case 8: aboutCall(person, below(4)); break;
            case 9: asCall(person, below(5)); break;
            case 10: drinkCall(person, a); break;
            case 11: case 12: case 13: pourCall(a, b, below(10)); break;
            case 14: tableCall(people()); break;
            case 15: blendCall(people(), below(random.nextBoolean() ? 100 : 12), two); break;
            case 16: case 17: topCall(people(), a, two); break;
            case 18: trialCall(a, random.nextBoolean()); break;
            case 19: if (random.nextInt(3) == 0) due("forget()", x.forget(), model.forget()); break;
            case 20: birthsCall(below(5)); break;
            case 21: toppedCall(a, people(), two); break;
            case 22: feastsCall(below(61), random.nextInt() >>> random.nextInt(2), below(3)); break;
            case 23: if (random.nextInt(3) == 0) due("image()", x.image(), model.image()); break;
            case 24: if (random.nextInt(3) == 0) due("restore()", x.restore(), model.restore()); break;
            default: countCall(below(8)); break;
        }
    }

    private void letter() {
        int code = random.nextInt(3) == 0 ? random.nextInt(140) - 5 : "0123456789;,".charAt(random.nextInt(12));
        due("letter(" + code + ")", x.letter(code), model.letter(code));
    }

    private void caskCall(int cask, int what) {
        due("cask(" + cask + ", " + what + ")", x.cask(cask, what), model.cask(cask, what));
    }

    private void personCall(int kind, int born) {
        due("person(" + kind + ", " + born + ")", x.person(kind, born), model.person(kind, born));
    }

    private void aboutCall(int person, int what) {
        due("about(" + person + ", " + what + ")", x.about(person, what), model.about(person, what));
    }

    private void asCall(int person, int kind) {
        due("as(" + person + ", " + kind + ")", x.as(person, kind), model.as(person, kind));
    }

    private void drinkCall(int person, int cask) {
        due("drink(" + person + ", " + cask + ")", x.drink(person, cask), model.drink(person, cask));
    }

    private void pourCall(int a, int b, int litres) {
        due("pour(" + a + ", " + b + ", " + litres + ")", x.pour(a, b, litres), model.pour(a, b, litres));
    }

    private void tableCall(int people) {
        due("table(" + people + ")", x.table(people), model.table(people));
    }

    private void blendCall(int people, int litres, int what) {
        due("blend(" + people + ", " + litres + ", " + what + ")",
            x.blend(people, litres, what), model.blend(people, litres, what));
    }

    private void topCall(int people, int cask, int what) {
        due("top(" + people + ", " + cask + ", " + what + ")",
            x.top(people, cask, what), model.top(people, cask, what));
    }

    private void trialCall(int cask, boolean ill) {
        due("trial(" + cask + ", " + ill + ")", x.trial(cask, ill), model.trial(cask, ill));
    }

    private void birthsCall(int kind) {
        due("births(" + kind + ")", x.births(kind), model.births(kind));
        due("ask(" + kind + ")", x.ask(kind), model.ask(kind));
    }

    private void toppedCall(int cask, int people, int what) {
        due("topped(" + cask + ", " + people + ", " + what + ")",
            x.topped(cask, people, what), model.topped(cask, people, what));
    }

    private void feastsCall(int times, int seed, int what) {
        due("feasts(" + times + ", " + seed + ", " + what + ")",
            x.feasts(times, seed, what), model.feasts(times, seed, what));
    }

    private void countCall(int what) {
        due("count(" + what + ")", x.count(what), model.count(what));
    }
}
