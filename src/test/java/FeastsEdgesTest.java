import java.math.BigInteger;
import java.util.Arrays;

/** The edges of FEASTS and of DRAWS ("Terms"), and of promise 20. */
final class FeastsEdgesTest {
    private static final Check CHECK = new Check();
    private static final int[] SEEDS = {0, 1, 2, 77, 65535, 65536, 1103515245, 1 << 30, Integer.MAX_VALUE - 1,
        Integer.MAX_VALUE};

    public static void main(String[] args) {
        seedsThen();
        seedsWithinTheRest();
        whoDrinks();
        whatIsDrunk();
        drawsByRounding();
        ofAnEmptyOneNothing();
        asTheyWouldBe();
        times();
        timesOutside();
        seedsOutside();
        whatsOutside();
        nobody();
        CHECK.end();
    }

    /** The seed behind so many DRAWS, by numbers that never wrap around. */
    private static long seedBehind(long seed, int draws) {
        BigInteger next = BigInteger.valueOf(seed);
        for (int draw = 0; draw < draws; draw++) {
            next = next.multiply(BigInteger.valueOf(1103515245L)).add(BigInteger.valueOf(12345L));
            next = next.mod(BigInteger.TWO.pow(31));
        }
        return next.longValueExact();
    }

    private static int drawn(long seed, int draws, int of) {
        return (int) (seedBehind(seed, draws) / 65536 % of);
    }

    private static void seedsThen() {
        CHECK.words("the next SEED each time: 1103515245 times it and 12345, its rest by 2 to the 31");
        WineByYears x = Check.witches("0;51,61", 1);
        CHECK.due("feasts(1, 0, 2)", x.feasts(1, 0, 2), 1406932606);
        CHECK.due("feasts(1, the greatest, 2)", x.feasts(1, Integer.MAX_VALUE, 2), 288979989);
        for (int seed : SEEDS) {
            for (int times : new int[] {1, 2, 7, 59, 60}) {
                String call = "feasts(" + times + ", " + seed + ", 2)";
                CHECK.due(call, x.feasts(times, seed, 2), seedBehind(seed, 2 * times));
            }
        }
    }

    /** No seed is below 0, and some have the highest bit that a rest by 2 to the 31 can have. */
    private static void seedsWithinTheRest() {
        CHECK.words("its rest by 2 to the 31");
        WineByYears x = Check.witches("0;51,61", 1);
        int high = 0;
        for (int seed = 0; seed < 400; seed++) {
            int then = x.feasts(1, seed, 2);
            CHECK.due("feasts(1, " + seed + ", 2)", then, seedBehind(seed, 2));
            high += then >= 1 << 30 ? 1 : 0;
        }
        CHECK.due("some are high, some are not", high > 100 && high < 300 ? 1 : 0, 1);
    }

    private static void whoDrinks() {
        CHECK.words("one of PEOPLE, by a DRAW of how many there are");
        for (int people = 1; people <= 5; people++) {
            for (int seed : SEEDS) {
                for (int who = 0; who < people; who++) {
                    String[] told = {"39", "39", "39", "39", "39"};
                    told[who] = "29";
                    WineByYears x = Check.peopled("0;59,59,59", Arrays.copyOf(told, people));
                    CHECK.due("is " + who + " of " + people + " ILL, seed " + seed, x.feasts(1, seed, 0),
                        drawn(seed, 1, people) == who ? 1 : 0);
                    CHECK.due("is " + who + " of " + people + " ILL again, seed " + seed, x.feasts(2, seed, 0),
                        (drawn(seed, 1, people) == who ? 1 : 0) + (drawn(seed, 3, people) == who ? 1 : 0));
                }
            }
        }
    }

    private static void whatIsDrunk() {
        CHECK.words("drinks of a CASK, by a DRAW of how many there are");
        for (int casks = 2; casks <= 5; casks++) {
            for (int seed : SEEDS) {
                for (int cask = 0; cask < casks; cask++) {
                    WineByYears x = Check.witches(onlyIn(cask, 9).substring(0, 3 * casks + 1), 1);
                    int due = 9 - (drawn(seed, 2, casks) == cask ? 1 : 0);
                    CHECK.due("LITRES of " + cask + " of " + casks + ", seed " + seed, x.feasts(1, seed, 1), due);
                    due -= drawn(seed, 4, casks) == cask ? 1 : 0;
                    CHECK.due("LITRES of two times, seed " + seed, x.feasts(2, seed, 1), due);
                }
            }
        }
    }

    /** The seed by which so many DRAWS lead to this one. */
    private static int seedAhead(long seed, int draws) {
        BigInteger all = BigInteger.TWO.pow(31);
        BigInteger back = BigInteger.valueOf(1103515245L).modInverse(all);
        BigInteger ahead = BigInteger.valueOf(seed);
        for (int draw = 0; draw < draws; draw++) {
            ahead = ahead.subtract(BigInteger.valueOf(12345L)).multiply(back).mod(all);
        }
        return ahead.intValueExact();
    }

    /** The last seeds that are drawn as one number, and the first that are drawn as the next. */
    private static void drawsByRounding() {
        CHECK.words("then that by 65536 (rounded down), its rest");
        int[] seeds = {0, 65535, 65536, 2 * 65536 - 1, 2 * 65536, 5 * 65536 - 1, 5 * 65536, Integer.MAX_VALUE};
        int[] due = {0, 0, 1, 1, 2, 4, 0, 32767 % 5};
        for (int i = 0; i < seeds.length; i++) {
            for (int number = 0; number < 5; number++) {
                String[] people = {"39", "39", "39", "39", "39"};
                people[number] = "29";
                CHECK.due("is " + number + " drawn by " + seeds[i],
                    Check.peopled("0;59,59", people).feasts(1, seedAhead(seeds[i], 1), 0), due[i] == number ? 1 : 0);
                WineByYears one = Check.witches(onlyIn(number, 1), 1);
                CHECK.due("is cask " + number + " drawn by " + seeds[i],
                    1 - one.feasts(1, seedAhead(seeds[i], 2), 1), due[i] == number ? 1 : 0);
            }
        }
    }

    /** Five casks, all of them empty but for one. */
    private static String onlyIn(int cask, int litres) {
        return "0;50,50,50,50,50".substring(0, 3 * cask + 3) + litres + ",50,50,50,50".substring(3 * cask);
    }

    private static void ofAnEmptyOneNothing() {
        CHECK.words("(of an empty one nothing)");
        for (int seed : SEEDS) {
            WineByYears dry = Check.peopled("0;50,50", "29");
            CHECK.due("ILL of empty ones", dry.feasts(60, seed, 0), 0);
            CHECK.due("LITRES of empty ones", dry.feasts(60, seed, 1), 0);
            CHECK.due("the SEED then", dry.feasts(60, seed, 2), seedBehind(seed, 120));
            WineByYears half = Check.peopled("0;51,50", "29");
            int first = drawn(seed, 2, 2) == 0 ? 1 : 0;
            CHECK.due("ILL of one of two", half.feasts(1, seed, 0), first);
            CHECK.due("LITRES of one of two", half.feasts(1, seed, 1), 1 - first);
            CHECK.due("ILL of the one there was", half.feasts(60, seed, 0), 1);
            CHECK.due("LITRES when it is drunk", half.feasts(60, seed, 1), 0);
            CHECK.due("the SEED when it is drunk", half.feasts(60, seed, 2), seedBehind(seed, 120));
        }
    }

    private static void asTheyWouldBe() {
        CHECK.words("FEASTS by a SEED, as they would be");
        for (int what = 0; what <= 2; what++) {
            int asked = what;
            int[] due = {4 - 2, 0, (int) seedBehind(5, 120)};
            CHECK.unchanged("feasts(60, 5, " + what + ")", () -> Check.peopled("0;02,92", "08"),
                x -> x.feasts(60, 5, asked), due[what]);
        }
        CHECK.unchanged("feasts(60, 5, 1) of a busy one", Check::busy, x -> x.feasts(60, 5, 1), 0);
        // How often one was ILL before does not count.
        WineByYears ill = Check.peopled("0;03,00", "29");
        ill.drink(0, 0);
        CHECK.due("ILL by the feasts alone", ill.feasts(60, 3, 0), 2);
        CHECK.due("ILL so far", ill.count(4), 1);
        CHECK.due("LITRES so far", ill.count(2), 2);
        // The AGES of 2 of year 0 and 2 of year 9, as they are drunk: 9 9 0 0, 0 0 0 0, 9 0 0 0, 4 3 0 0.
        int[] due = {2, 4, 3, 3};
        for (int law = 0; law < 4; law++) {
            WineByYears mixed = Check.peopled(law + ";02,92", "03");
            mixed.pour(1, 0, 2);
            CHECK.due("ILL by what is left each time, LAW " + law, mixed.feasts(60, 3, 0), due[law]);
            // Of three YEARS an ABBOT MAY not, of the two and the one that are left he MAY.
            WineByYears abbot = Check.peopled(law + ";71,81,91", "40");
            abbot.pour(1, 0, 1);
            abbot.pour(2, 0, 1);
            CHECK.due("ILL of an ABBOT, LAW " + law, abbot.feasts(60, 3, 0), 1);
            CHECK.due("LITRES when all is drunk, LAW " + law, abbot.feasts(60, 3, 1), 0);
        }
    }

    private static void times() {
        CHECK.words("OUTSIDE: times (1 to 60)");
        WineByYears x = Check.peopled("0;09,09,09,09,09", "29");
        for (int times = 1; times <= 60; times++) {
            int ill = x.feasts(times, 4, 0);
            CHECK.due("ILL and LITRES of " + times, ill + x.feasts(times, 4, 1), 45);
            CHECK.due("ILL of " + times, ill, illOf(times, 4));
        }
        CHECK.due("feasts(1, 4, 0)", x.feasts(1, 4, 0), 1);
    }

    /** How many of so many DRAWS of five casks find one of the nine LITRES that each had. */
    private static int illOf(int times, int seed) {
        int[] litres = {9, 9, 9, 9, 9};
        int ill = 0;
        for (int time = 1; time <= times; time++) {
            int cask = drawn(seed, 2 * time, 5);
            ill += litres[cask] > 0 ? 1 : 0;
            litres[cask]--;
        }
        return ill;
    }

    private static void timesOutside() {
        CHECK.words("OUTSIDE: times (1 to 60)");
        for (int times : Check.beyond(1, 60)) {
            for (int what = 0; what <= 2; what++) {
                int asked = what;
                CHECK.unchanged("feasts(" + times + ", 0, " + what + ")", Check::busy,
                    x -> x.feasts(times, 0, asked), WineByYears.OUTSIDE);
            }
        }
    }

    private static void seedsOutside() {
        CHECK.words("seed (0 at least)");
        CHECK.unchanged("feasts(1, 0, 2)", Check::busy, x -> x.feasts(1, 0, 2), seedBehind(0, 2));
        CHECK.unchanged("feasts(60, the greatest, 2)", Check::busy, x -> x.feasts(60, Integer.MAX_VALUE, 2),
            seedBehind(Integer.MAX_VALUE, 120));
        for (int seed : new int[] {-1, -65536, Integer.MIN_VALUE + 1, Integer.MIN_VALUE}) {
            CHECK.unchanged("feasts(1, " + seed + ", 2)", Check::busy, x -> x.feasts(1, seed, 2),
                WineByYears.OUTSIDE);
        }
    }

    private static void whatsOutside() {
        CHECK.words("feasts: OUTSIDE: what");
        for (int what : Check.beyond(0, 2)) {
            CHECK.unchanged("feasts(1, 0, " + what + ")", Check::busy, x -> x.feasts(1, 0, what),
                WineByYears.OUTSIDE);
        }
    }

    private static void nobody() {
        CHECK.words("STATE: there are no PEOPLE.");
        int[][] outside = {{0, 0, 0}, {61, 0, 0}, {Integer.MIN_VALUE, 0, 0}, {1, -1, 0}, {1, Integer.MIN_VALUE, 0},
            {1, 0, -1}, {1, 0, 3}, {1, 0, Integer.MAX_VALUE}};
        for (int what = 0; what <= 2; what++) {
            int asked = what;
            CHECK.unchanged("of nobody", () -> Check.cellarOf("0;51,61"), x -> x.feasts(60, 0, asked),
                WineByYears.STATE);
            CHECK.unchanged("without a CELLAR", WineByYears::new, x -> x.feasts(1, 9, asked), WineByYears.STATE);
        }
        CHECK.words("feasts: OUTSIDE ahead of STATE");
        for (int[] o : outside) {
            CHECK.unchanged("of nobody", () -> Check.cellarOf("0;51,61"), x -> x.feasts(o[0], o[1], o[2]),
                WineByYears.OUTSIDE);
            CHECK.unchanged("without a CELLAR", WineByYears::new, x -> x.feasts(o[0], o[1], o[2]),
                WineByYears.OUTSIDE);
        }
        WineByYears gone = Check.cellarOf("0;51,61");
        gone.image();
        gone.person(0, 0);
        gone.restore();
        CHECK.due("when the only one is gone", gone.feasts(1, 0, 0), WineByYears.STATE);
    }
}
