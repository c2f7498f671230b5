/** Promises 12 to 14: table, blend, top. */
final class WouldBeTest {
    private static final Check CHECK = new Check();

    public static void main(String[] args) {
        tables();
        tableWrong();
        blends();
        blendTies();
        blendOfYearZero();
        blendWrong();
        tops();
        topWrong();
        CHECK.end();
    }

    private static void tables() {
        WineByYears x = Check.cellarOf("0;31,51,90");
        CHECK.due("table(0)", x.table(0), 0);
        x.person(0, 2);
        x.person(0, 4);
        x.person(3, 9);
        CHECK.due("two litres for three", x.table(7), 2);
        CHECK.due("one each", x.table(3), 2);
        CHECK.due("the WITCH takes what the other leaves", x.table(6), 2);
        x.person(0, 4);
        CHECK.due("two who MAY only of one litre", x.table(10), 1);
        CHECK.due("all four", x.table(15), 2);
        long before = x.digest();
        x.table(15);
        CHECK.due("table() changes nothing", x.digest(), before);
        WineByYears wide = Check.cellarOf("0;39,99");
        for (int i = 0; i < 5; i++) {
            wide.person(0, i + 1);
        }
        CHECK.due("litres enough for all", wide.table(31), 5);
        wide.pour(1, 0, 9);
        CHECK.due("all of one cask", wide.table(31), 5);
        WineByYears dry = Check.cellarOf("0;30,90");
        dry.person(3, 0);
        CHECK.due("nothing to drink", dry.table(1), 0);
        tableOfFewWho();
    }

    /** Many litres of which few MAY, and few litres of which many MAY, in the first or last cask. */
    private static void tableOfFewWho() {
        for (String text : new String[] {"0;59,11", "0;11,59"}) {
            WineByYears x = Check.cellarOf(text);
            x.person(2, 9);
            x.person(0, 0);
            x.person(0, 4);
            x.person(2, 8);
            CHECK.due("two of four at " + text, x.table(15), 2);
            CHECK.due("none of two at " + text, x.table(9), 0);
        }
        WineByYears last = Check.cellarOf("0;10,30,51");
        last.person(0, 0);
        last.person(0, 4);
        CHECK.due("one litre in the last cask", last.table(3), 1);
    }

    private static void tableWrong() {
        WineByYears none = new WineByYears();
        CHECK.due("table(0) without a cellar", none.table(0), WineByYears.STATE);
        CHECK.due("table(1) without a cellar", none.table(1), WineByYears.OUTSIDE);
        WineByYears x = Check.cellarOf("0;31,51");
        x.person(0, 0);
        x.person(0, 0);
        for (int people : new int[] {4, 7, -1, 32, Integer.MIN_VALUE, Integer.MAX_VALUE}) {
            CHECK.due("table(" + people + ")", x.table(people), WineByYears.OUTSIDE);
        }
    }

    private static void blend(WineByYears x, int people, int litres, int howMany, int which) {
        String call = "blend(" + people + ", " + litres + ", ";
        long before = x.digest();
        CHECK.due(call + "0)", x.blend(people, litres, 0), howMany);
        CHECK.due(call + "1)", x.blend(people, litres, 1), which);
        CHECK.due(call + "..) changes nothing", x.digest(), before);
    }

    private static void blends() {
        WineByYears x = Check.cellarOf("3;19,99,50,31");
        blend(x, 0, 0, 0, 0);
        blend(x, 0, 1, 1, 1);
        x.person(0, 4);
        x.person(4, 3);
        blend(x, 1, 0, 1, 2);
        blend(x, 1, 10, 2, 3);
        blend(x, 1, 18, 2, 3);
        blend(x, 2, 1, 1, 2);
        blend(x, 2, 0, 1, 2);
        blend(x, 1, 19, WineByYears.NONE, WineByYears.NONE);
        blend(x, 2, 19, WineByYears.NONE, WineByYears.NONE);
        blend(x, 0, 19, 3, 11);
        blend(x, 0, 20, WineByYears.NONE, WineByYears.NONE);
        blend(x, 0, 99, WineByYears.NONE, WineByYears.NONE);
        WineByYears wide = Check.cellarOf("0;19,29,39,49,59");
        wide.person(1, 5);
        blend(wide, 1, 45, 5, 31);
        blend(wide, 1, 27, 3, 19);
        WineByYears dry = Check.cellarOf("0;30,90");
        dry.person(3, 0);
        blend(dry, 0, 0, 0, 0);
        blend(dry, 1, 0, WineByYears.NONE, WineByYears.NONE);
        blend(dry, 0, 1, WineByYears.NONE, WineByYears.NONE);
    }

    /** Year 0 is a year like others: by LAW 1 one litre of it makes a blend as old. */
    private static void blendOfYearZero() {
        WineByYears x = Check.cellarOf("1;01,59,51");
        x.person(0, 4);
        blend(x, 1, 10, 2, 6);
        blend(x, 1, 11, WineByYears.NONE, WineByYears.NONE);
        blend(x, 0, 11, 3, 7);
        top(x, 1, 0, WineByYears.NONE, WineByYears.NONE);
        blend(x, 1, 1, 1, 2);
    }

    /** Of as many casks the least bits; fewer casks of greater bits are better than more of less. */
    private static void blendTies() {
        WineByYears x = Check.cellarOf("0;53,53,53,59");
        x.person(1, 5);
        blend(x, 1, 3, 1, 1);
        blend(x, 1, 4, 1, 8);
        blend(x, 1, 6, 1, 8);
        blend(x, 1, 10, 2, 9);
        blend(x, 1, 13, 3, 11);
    }

    private static void blendWrong() {
        WineByYears none = new WineByYears();
        CHECK.due("blend(0, 0, 0) without a cellar", none.blend(0, 0, 0), WineByYears.STATE);
        CHECK.due("blend(1, 0, 0) without a cellar", none.blend(1, 0, 0), WineByYears.OUTSIDE);
        CHECK.due("blend(0, 100, 0) without a cellar", none.blend(0, 100, 0), WineByYears.OUTSIDE);
        CHECK.due("blend(0, 0, 2) without a cellar", none.blend(0, 0, 2), WineByYears.OUTSIDE);
        WineByYears x = Check.cellarOf("0;31,51");
        x.person(0, 0);
        int[][] wrong = {{2, 0, 0}, {-1, 0, 0}, {1, -1, 0}, {1, 100, 0}, {1, 0, -1}, {1, 0, 2},
            {Integer.MIN_VALUE, 0, 0}, {1, Integer.MAX_VALUE, 0}, {1, 0, Integer.MIN_VALUE}};
        for (int[] w : wrong) {
            String call = "blend(" + w[0] + ", " + w[1] + ", " + w[2] + ")";
            CHECK.due(call, x.blend(w[0], w[1], w[2]), WineByYears.OUTSIDE);
        }
    }

    private static void top(WineByYears x, int people, int cask, int howFew, int outOf) {
        String call = "top(" + people + ", " + cask + ", ";
        long before = x.digest();
        CHECK.due(call + "0)", x.top(people, cask, 0), howFew);
        CHECK.due(call + "1)", x.top(people, cask, 1), outOf);
        CHECK.due(call + "..) changes nothing", x.digest(), before);
    }

    private static void tops() {
        WineByYears x = Check.cellarOf("2;33,89,89,12,70");
        top(x, 0, 4, 0, WineByYears.NONE);
        x.person(0, 5);
        x.person(0, 0);
        x.person(4, 1);
        top(x, 1, 1, 0, WineByYears.NONE);
        top(x, 1, 0, 3, 1);
        top(x, 1, 3, 2, 1);
        top(x, 2, 4, 1, 0);
        top(x, 1, 4, 1, 1);
        top(x, 7, 3, 2, 1);
        x.pour(0, 3, 1);
        top(x, 1, 3, 2, 1);
        top(x, 5, 3, WineByYears.NONE, WineByYears.NONE);
        WineByYears mean = Check.cellarOf("3;19,99,59");
        mean.person(0, 5);
        mean.person(0, 9);
        top(mean, 1, 0, WineByYears.NONE, WineByYears.NONE);
        top(mean, 1, 2, 3, 1);
        top(mean, 2, 2, WineByYears.NONE, WineByYears.NONE);
        WineByYears least = Check.cellarOf("0;11,61,71,81");
        least.person(0, 6);
        top(least, 1, 0, 1, 2);
        top(least, 1, 1, 1, 2);
        roomOfTop();
    }

    /** By LAW 2 cask 0 needs 8 litres of year 9, and has room for 7, 8. */
    private static void roomOfTop() {
        WineByYears x = Check.cellarOf("2;18,98,19,29");
        x.person(0, 5);
        top(x, 1, 0, 8, 1);
        x.pour(3, 0, 4);
        top(x, 1, 0, 8, 1);
        x.pour(3, 0, 1);
        top(x, 1, 0, WineByYears.NONE, WineByYears.NONE);
        WineByYears few = Check.cellarOf("2;18,97");
        few.person(0, 5);
        top(few, 1, 0, WineByYears.NONE, WineByYears.NONE);
    }

    private static void topWrong() {
        CHECK.due("top without a cellar", new WineByYears().top(0, 0, 0), WineByYears.UNKNOWN);
        WineByYears x = Check.cellarOf("0;31,51");
        x.person(0, 0);
        for (int cask : new int[] {-1, 2, Integer.MIN_VALUE, Integer.MAX_VALUE}) {
            CHECK.due("top(1, " + cask + ", 0)", x.top(1, cask, 0), WineByYears.UNKNOWN);
            CHECK.due("top(2, " + cask + ", 2)", x.top(2, cask, 2), WineByYears.UNKNOWN);
        }
        int[][] wrong = {{2, 0}, {-1, 0}, {1, -1}, {1, 2}, {Integer.MIN_VALUE, 0}, {1, Integer.MAX_VALUE}};
        for (int[] w : wrong) {
            CHECK.due("top(" + w[0] + ", 0, " + w[1] + ")", x.top(w[0], 0, w[1]), WineByYears.OUTSIDE);
        }
    }
}
