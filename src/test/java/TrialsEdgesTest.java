/** The edges of TRIALS, BIRTHS, ASK and TOPPED ("Terms"), and of promises 15 to 19. */
final class TrialsEdgesTest {
    private static final Check CHECK = new Check();
    private static final int NONE = WineByYears.NONE;
    private static final int ALL = 1023;
    private static final int[] ENDS = {Integer.MIN_VALUE, -1, 0, 1, Integer.MAX_VALUE};

    public static void main(String[] args) {
        eightTrials();
        trialRefusals();
        forgets();
        birthsByKind();
        birthsOfAllTrials();
        birthsAsItIsNow();
        birthsOfAnEmptyOne();
        ofThreeYears();
        birthsRefusals();
        askAtWorst();
        askOfTheseYears();
        askOfLikeOnes();
        askNotEmpty();
        askNone();
        askRefusals();
        toppedWays();
        toppedTogether();
        toppedJustThese();
        toppedOneLitre();
        toppedNone();
        toppedUnknown();
        toppedOutside();
        CHECK.end();
    }

    /** Eight TRIALS, the first and the last of which tell most; two are kept. */
    private static WineByYears eight() {
        WineByYears x = Check.peopled("0;31,71,50", "03");
        x.trial(0, true);
        x.trial(2, true);
        x.image();
        for (int trial = 3; trial <= 7; trial++) {
            x.trial(2, true);
        }
        x.trial(1, false);
        return x;
    }

    private static void eightTrials() {
        CHECK.words("TRIALS (8 at most)");
        for (boolean ill : new boolean[] {true, false}) {
            WineByYears x = Check.cellarOf("0;31,50");
            for (int trials = 1; trials <= 8; trials++) {
                CHECK.due("trial " + trials, x.trial(trials % 2, ill), trials);
                CHECK.due("count(5)", x.count(5), trials);
            }
            CHECK.unchanged("a ninth", TrialsEdgesTest::eight, y -> y.trial(0, ill), WineByYears.FULL);
            CHECK.unchanged("a ninth of an empty one", TrialsEdgesTest::eight, y -> y.trial(2, ill), WineByYears.FULL);
        }
        WineByYears five = Check.cellarOf("0;31,50,31,50,71");
        CHECK.due("of the last of five", five.trial(4, false), 1);
        CHECK.due("births() of it", five.births(0), 127);
    }

    private static void trialRefusals() {
        CHECK.words("trial: UNKNOWN: cask, ahead of FULL");
        for (boolean ill : new boolean[] {true, false}) {
            for (int cask : Check.beyond(0, 2)) {
                String call = "trial(" + cask + ", " + ill + ")";
                CHECK.unchanged(call, Check::busy, x -> x.trial(cask, ill), WineByYears.UNKNOWN);
                CHECK.unchanged(call + ", a ninth", TrialsEdgesTest::eight, x -> x.trial(cask, ill),
                    WineByYears.UNKNOWN);
            }
            for (int cask : ENDS) {
                CHECK.unchanged("trial(" + cask + ", " + ill + ") without a CELLAR", WineByYears::new,
                    x -> x.trial(cask, ill), WineByYears.UNKNOWN);
            }
        }
    }

    private static void forgets() {
        CHECK.words("All TRIALS are gone: how many there were.");
        for (int trials = 0; trials <= 8; trials++) {
            WineByYears x = Check.cellarOf("0;31,50");
            for (int made = 0; made < trials; made++) {
                x.trial(0, true);
            }
            CHECK.due("forget() of " + trials, x.forget(), trials);
            CHECK.due("count(5)", x.count(5), 0);
            CHECK.due("births(0)", x.births(0), ALL);
            CHECK.due("digest()", x.digest(), Check.cellarOf("0;31,50").digest());
            CHECK.due("forget() again", x.forget(), 0);
            CHECK.due("a first one then", x.trial(0, false), 1);
            CHECK.due("births(0) of it", x.births(0), 7);
        }
        CHECK.unchanged("forget() without a CELLAR", WineByYears::new, WineByYears::forget, 0);
        WineByYears kept = eight();
        CHECK.due("forget()", kept.forget(), 8);
        kept.restore();
        CHECK.due("those that are kept come back", kept.forget(), 2);
        WineByYears busy = Check.busy();
        busy.forget();
        int[] due = {2, 3, 4, 3, 2, 0, 3, 1};
        for (int what = 0; what < 8; what++) {
            CHECK.due("count(" + what + ") behind forget()", busy.count(what), due[what]);
        }
    }

    private static void birthsByKind() {
        CHECK.words("the YEARS in which it can be BORN so that all TRIALS would be so");
        int[] least = {1, 0, 2, -9, 0};
        for (int kind = 0; kind < 5; kind++) {
            for (int age = 0; age < 10; age++) {
                int well = 0;
                for (int born = 0; born < 10; born++) {
                    well += age - born >= least[kind] ? 1 << born : 0;
                }
                WineByYears x = Check.cellarOf("0;" + age + "1,50");
                CHECK.due("births(" + kind + ") without TRIALS", x.births(kind), ALL);
                x.trial(0, false);
                CHECK.due("births(" + kind + "), not ILL of AGE " + age, x.births(kind), well);
                x.forget();
                x.trial(0, true);
                CHECK.due("births(" + kind + "), ILL of AGE " + age, x.births(kind), ALL - well);
            }
        }
    }

    private static void birthsOfAllTrials() {
        CHECK.words("so that all TRIALS would be so");
        for (int place = 0; place < 8; place++) {
            WineByYears x = Check.cellarOf("0;31,71,91");
            for (int trial = 0; trial < 8; trial++) {
                x.trial(trial == place ? 0 : 1, trial == place);
            }
            CHECK.due("only trial " + place + " ILL", x.births(0), 127 - 7);
            WineByYears y = Check.cellarOf("0;31,71,91");
            for (int trial = 0; trial < 8; trial++) {
                y.trial(trial == place ? 1 : 0, trial != place);
            }
            CHECK.due("only trial " + place + " not ILL", y.births(0), 127 - 7);
        }
        WineByYears both = Check.cellarOf("0;31,71");
        both.trial(0, true);
        both.trial(0, false);
        CHECK.due("ILL and not", both.births(0), 0);
        CHECK.unchanged("births(0)", TrialsEdgesTest::eight, x -> x.births(0), 127 - 7);
    }

    private static void birthsAsItIsNow() {
        CHECK.words("each CASK being as it is now");
        WineByYears x = Check.peopled("0;31,71,91", "30");
        x.trial(0, false);
        x.trial(1, true);
        CHECK.due("of years 3 and 7", x.births(0), 0);
        x.pour(2, 0, 1);
        CHECK.due("of years 9 and 7", x.births(0), 511 - 127);
        x.drink(0, 1);
        CHECK.due("of year 9, and an empty one", x.births(0), 511);
        x.pour(0, 1, 1);
        CHECK.due("of years 3 and 9", x.births(0), 0);
        CHECK.due("of a KIND", x.births(4), 0);
    }

    private static void birthsOfAnEmptyOne() {
        CHECK.words("Of an empty one nobody MAY.");
        for (int kind = 0; kind < 5; kind++) {
            WineByYears x = Check.cellarOf("0;91,00");
            x.trial(1, true);
            CHECK.due("births(" + kind + "), ILL of an empty one", x.births(kind), ALL);
            x.trial(1, false);
            CHECK.due("births(" + kind + "), not ILL of an empty one", x.births(kind), 0);
        }
    }

    /** Cask 0 has litres of three YEARS, 2 to 4, cask 1 of year 6; the others are empty. */
    private static WineByYears threeYears() {
        WineByYears x = Check.peopled("0;21,61,31,41", "40", "10");
        x.pour(2, 0, 1);
        x.pour(3, 0, 1);
        return x;
    }

    private static void ofThreeYears() {
        CHECK.words("an ABBOT as a WIDOW, but not if there are LITRES of three YEARS or more in it");
        WineByYears ill = threeYears();
        CHECK.due("ask(1), cask 0 leaves five", ill.ask(1), 0);
        CHECK.due("ask(4), cask 0 leaves all ten", ill.ask(4), 1);
        ill.trial(0, true);
        CHECK.due("births(1), ILL of AGE 4", ill.births(1), ALL - 31);
        CHECK.due("births(4), ILL of three YEARS", ill.births(4), ALL);
        ill.drink(1, 0);
        CHECK.due("births(4), ILL of AGE 3, of the two YEARS that are left", ill.births(4), ALL - 15);
        WineByYears well = threeYears();
        well.trial(0, false);
        CHECK.due("births(1), not ILL of AGE 4", well.births(1), 31);
        CHECK.due("births(4), not ILL of three YEARS", well.births(4), 0);
        CHECK.due("ask(4) of no YEAR", well.ask(4), NONE);
        // A litre out of cask 0 leaves two YEARS in it; three stay if one is poured out of cask 1, or four.
        topped(threeYears(), 0, 3, 3, 1);
        topped(threeYears(), 0, 2, 3, 5);
        topped(threeYears(), 0, 1, 0, NONE);
    }

    private static void birthsRefusals() {
        CHECK.words("births: OUTSIDE: kind; STATE: no CELLAR.");
        for (int kind : Check.beyond(0, 4)) {
            CHECK.unchanged("births(" + kind + ")", Check::busy, x -> x.births(kind), WineByYears.OUTSIDE);
            CHECK.unchanged("births(" + kind + ") without a CELLAR", WineByYears::new, x -> x.births(kind),
                WineByYears.OUTSIDE);
        }
        for (int kind = 0; kind < 5; kind++) {
            int asked = kind;
            CHECK.unchanged("births(" + kind + ") without a CELLAR", WineByYears::new, x -> x.births(asked),
                WineByYears.STATE);
        }
    }

    private static void ask(String text, int kind, int due) {
        CHECK.unchanged("ask(" + kind + ") of " + text, () -> Check.cellarOf(text), x -> x.ask(kind), due);
    }

    private static void askAtWorst() {
        CHECK.words("by which fewest of these YEARS would be left at worst, whether it is ILL by it or not");
        ask("0;21,71", 0, 1);
        ask("0;21,81", 0, 0);
        ask("0;81,31", 0, 1);
        ask("0;91,01,51", 0, 2);
        ask("0;41,61", 0, 0);
        ask("0;41,51,61", 0, 1);
        ask("0;41,51,61", 1, 0);
        ask("0;51,61,71", 2, 1);
        ask("0;01,11,41,91", 1, 2);
        ask("0;01,11,21,91", 2, 3);
        ask("0;01,11,21,31", 4, 3);
    }

    private static void askOfTheseYears() {
        CHECK.words("fewest of these YEARS");
        WineByYears x = Check.cellarOf("0;51,21,91,71");
        CHECK.due("of years 0 to 9", x.ask(0), 0);
        x.trial(0, true);
        CHECK.due("of years 5 to 9", x.ask(0), 3);
        x.forget();
        x.trial(0, false);
        CHECK.due("of years 0 to 4", x.ask(0), 1);
        CHECK.due("of a KING, years 0 to 3", x.ask(2), 1);
        CHECK.due("of a WITCH, years 0 to 9", x.ask(3), 0);
        WineByYears one = Check.cellarOf("0;51,61,21");
        one.trial(0, true);
        one.trial(1, false);
        CHECK.due("of year 5 alone", one.births(0), 32);
        CHECK.due("of year 5 alone, all like", one.ask(0), 0);
    }

    private static void askOfLikeOnes() {
        CHECK.words("of like ones the least");
        ask("0;51,51,51,51,51", 0, 0);
        ask("0;31,51,51", 0, 1);
        ask("0;01,31,71", 0, 1);
        ask("0;01,71,31", 0, 1);
        for (int kind = 0; kind < 5; kind++) {
            ask("0;11,11", kind, 0);
        }
        ask("0;01,51,91", 3, 0);
    }

    private static void askNotEmpty() {
        CHECK.words("ASK: the CASK (not empty)");
        ask("0;50,01", 0, 1);
        ask("0;50,50,50,50,01", 0, 4);
        ask("0;50,01,51", 0, 2);
        for (int kind = 0; kind < 5; kind++) {
            ask("0;00,50,91", kind, 2);
        }
        WineByYears x = Check.peopled("0;51,91", "30");
        CHECK.due("ask(0)", x.ask(0), 0);
        x.drink(0, 0);
        CHECK.due("ask(0) when that is drunk up", x.ask(0), 1);
    }

    private static void askNone() {
        CHECK.words("NONE: there is no such YEAR, or all CASKS are empty");
        for (int kind = 0; kind < 5; kind++) {
            ask("0;50,00", kind, NONE);
            ask("0;50,00,50,00,50", kind, NONE);
            WineByYears x = Check.cellarOf("0;51,50");
            x.trial(0, true);
            x.trial(0, false);
            CHECK.due("ask(" + kind + ") of no YEAR", x.ask(kind), NONE);
        }
        WineByYears dry = Check.peopled("0;51,50", "30");
        dry.trial(0, true);
        dry.drink(0, 0);
        CHECK.due("births(0) when all is drunk", dry.births(0), ALL);
        CHECK.due("ask(0) when all is drunk", dry.ask(0), NONE);
        WineByYears witch = Check.cellarOf("0;51,50");
        witch.trial(0, true);
        CHECK.due("a WITCH is never ILL", witch.ask(3), NONE);
        CHECK.due("others can be", witch.ask(0), 0);
    }

    private static void askRefusals() {
        CHECK.words("ask: OUTSIDE: kind; STATE: no CELLAR.");
        for (int kind : Check.beyond(0, 4)) {
            CHECK.unchanged("ask(" + kind + ")", Check::busy, x -> x.ask(kind), WineByYears.OUTSIDE);
            CHECK.unchanged("ask(" + kind + ") without a CELLAR", WineByYears::new, x -> x.ask(kind),
                WineByYears.OUTSIDE);
        }
        for (int kind = 0; kind < 5; kind++) {
            int asked = kind;
            CHECK.unchanged("ask(" + kind + ") without a CELLAR", WineByYears::new, x -> x.ask(asked),
                WineByYears.STATE);
        }
    }

    private static void topped(WineByYears x, int cask, int people, int ways, int least) {
        String call = "topped(" + cask + ", " + people + ", ";
        CHECK.due(call + "0)", x.topped(cask, people, 0), ways);
        CHECK.due(call + "1)", x.topped(cask, people, 1), least);
    }

    private static void toppedWays() {
        CHECK.words("in how many ways one LITRE can be POURED now, out of one CASK into another one");
        String[] texts = {"0;52,52", "0;52,52,52", "0;52,52,52,52", "0;52,52,52,52,52"};
        for (int casks = 2; casks <= 5; casks++) {
            for (int cask = 0; cask < casks; cask++) {
                topped(Check.cellarOf(texts[casks - 2]), cask, 0, casks * (casks - 1), 1);
                topped(Check.witches(texts[casks - 2], 5), cask, 31, casks * (casks - 1), 1);
            }
        }
        topped(Check.cellarOf("0;50,50,50"), 0, 0, 0, NONE);
        topped(Check.cellarOf("0;50,51,50"), 0, 0, 2, 5);
        WineByYears full = Check.cellarOf("0;59,59,59");
        full.pour(1, 0, 9);
        full.pour(2, 0, 1);
        topped(full, 0, 0, 4, 1);
        full.pour(2, 0, 1);
        topped(full, 0, 0, 3, 1);
        full.pour(2, 1, 7);
        topped(full, 0, 0, 3, 1);
    }

    private static void toppedTogether() {
        CHECK.words("(5 times the first, and the second, together)");
        for (int from = 0; from < 5; from++) {
            String text = "0;90,90,90,90,90".substring(0, 3 * from + 3) + "1" + ",90,90,90,90".substring(3 * from);
            for (int into = 0; into < 5; into++) {
                if (into != from) {
                    topped(Check.witches(text, 1), into, 1, 1, 5 * from + into);
                    topped(Check.witches(text, 1), into, 0, 3, leastBut(from, into));
                }
            }
            topped(Check.witches(text, 1), from, 0, 4, from == 0 ? 1 : 5 * from);
            topped(Check.witches(text, 1), from, 1, 0, NONE);
        }
    }

    /** The least pouring out of a cask into one that is neither itself nor the other. */
    private static int leastBut(int from, int other) {
        int into = 0;
        while (into == from || into == other) {
            into++;
        }
        return 5 * from + into;
    }

    private static void toppedJustThese() {
        CHECK.words("so that just these of all PEOPLE MAY drink of that CASK then");
        WineByYears x = Check.peopled("0;52,82,30", "04", "07", "29");
        topped(x, 0, 0, 0, NONE);
        topped(x, 0, 1, 3, 1);
        topped(x, 0, 3, 1, 5);
        topped(x, 0, 2, 0, NONE);
        topped(x, 0, 7, 0, NONE);
        topped(x, 1, 3, 4, 1);
        topped(x, 2, 0, 2, 1);
        topped(x, 2, 1, 1, 2);
        topped(x, 2, 3, 1, 7);
        CHECK.unchanged("topped(0, 0, 0)", Check::busy, y -> y.topped(0, 0, 0), 2);
        CHECK.unchanged("topped(0, 0, 1)", Check::busy, y -> y.topped(0, 0, 1), 1);
        CHECK.unchanged("topped(0, 5, 1)", Check::busy, y -> y.topped(0, 5, 1), 5);
    }

    private static void toppedOneLitre() {
        CHECK.words("one LITRE can be POURED");
        // By LAW 2 one of year 8 is too few, by LAW 0 it is enough; it is the latest that is poured.
        topped(Check.peopled("2;32,89", "05"), 0, 0, 2, 1);
        topped(Check.peopled("2;31,89", "05"), 0, 1, 1, 5);
        topped(Check.peopled("0;32,89", "05"), 0, 1, 1, 5);
        WineByYears latest = Check.peopled("0;31,11,81", "05");
        latest.pour(2, 1, 1);
        topped(latest, 0, 1, 1, 5);
        topped(latest, 1, 0, 2, 5);
        topped(latest, 1, 1, 2, 1);
    }

    private static void toppedNone() {
        CHECK.words("1 the least (NONE)");
        CHECK.unchanged("topped(0, 2, 0)", Check::busy, x -> x.topped(0, 2, 0), 0);
        CHECK.unchanged("topped(0, 2, 1)", Check::busy, x -> x.topped(0, 2, 1), NONE);
        CHECK.unchanged("topped(0, 0, 0) of empty ones", () -> Check.cellarOf("0;10,20"), x -> x.topped(0, 0, 0), 0);
        CHECK.unchanged("topped(1, 0, 1) of empty ones", () -> Check.cellarOf("0;10,20"), x -> x.topped(1, 0, 1),
            NONE);
    }

    private static void toppedUnknown() {
        CHECK.words("topped: UNKNOWN: cask, ahead of OUTSIDE");
        int[][] rest = {{0, 0}, {7, 1}, {8, 0}, {-1, 0}, {0, -1}, {0, 2}, {Integer.MIN_VALUE, Integer.MAX_VALUE}};
        for (int[] r : rest) {
            for (int cask : Check.beyond(0, 2)) {
                CHECK.unchanged("topped(" + cask + ", " + r[0] + ", " + r[1] + ")", Check::busy,
                    x -> x.topped(cask, r[0], r[1]), WineByYears.UNKNOWN);
            }
            for (int cask : ENDS) {
                CHECK.unchanged("topped(" + cask + ", " + r[0] + ", " + r[1] + ") without a CELLAR", WineByYears::new,
                    x -> x.topped(cask, r[0], r[1]), WineByYears.UNKNOWN);
            }
        }
    }

    private static void toppedOutside() {
        CHECK.words("topped: OUTSIDE: people, what");
        for (int people : Check.notPeople(3)) {
            CHECK.unchanged("topped(0, " + people + ", 0)", Check::busy, x -> x.topped(0, people, 0),
                WineByYears.OUTSIDE);
        }
        for (int people : Check.notPeople(5)) {
            CHECK.unchanged("topped(0, " + people + ", 0) of five", () -> Check.witches("0;11,22", 5),
                x -> x.topped(0, people, 0), WineByYears.OUTSIDE);
        }
        for (int what : Check.beyond(0, 1)) {
            CHECK.unchanged("topped(0, 0, " + what + ")", Check::busy, x -> x.topped(0, 0, what), WineByYears.OUTSIDE);
        }
    }
}
