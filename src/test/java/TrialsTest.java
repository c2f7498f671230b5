/** Promises 15 to 20: trial, forget, births, ask, topped, feasts. */
final class TrialsTest {
    private static final Check CHECK = new Check();

    public static void main(String[] args) {
        trials();
        births();
        birthsMove();
        asks();
        topped();
        toppedWhenFull();
        toppedByOne();
        toppedWrong();
        feasts();
        feastsByLaw();
        feastsWrong();
        CHECK.end();
    }

    private static void trials() {
        WineByYears x = Check.cellarOf("0;31,50");
        CHECK.due("trial without a cellar", new WineByYears().trial(0, true), WineByYears.UNKNOWN);
        for (int i = 1; i <= 8; i++) {
            CHECK.due("trial " + i, x.trial(i % 2, i < 4), i);
        }
        long before = x.digest();
        CHECK.refused("a ninth trial", x.trial(0, true), WineByYears.FULL, before, x.digest());
        for (int cask : new int[] {-1, 2, Integer.MIN_VALUE, Integer.MAX_VALUE}) {
            CHECK.refused("trial(" + cask + ")", x.trial(cask, true), WineByYears.UNKNOWN, before, x.digest());
        }
        CHECK.due("count(5)", x.count(5), 8);
        CHECK.due("forget()", x.forget(), 8);
        CHECK.due("forget() again", x.forget(), 0);
        CHECK.due("count(5) then", x.count(5), 0);
        CHECK.due("births() then", x.births(0), 1023);
        CHECK.due("trial then", x.trial(0, false), 1);
        CHECK.due("births() of one not ILL", x.births(0), 7);
    }

    private static void births() {
        int[] may = {31, 63, 15, 1023, 63};
        for (int kind = 0; kind < 5; kind++) {
            WineByYears x = Check.cellarOf("0;51,50");
            x.trial(0, false);
            CHECK.due("births(" + kind + ") of one not ILL", x.births(kind), may[kind]);
            x.forget();
            x.trial(0, true);
            CHECK.due("births(" + kind + ") of one ILL", x.births(kind), 1023 & ~may[kind]);
            x.trial(0, false);
            CHECK.due("births(" + kind + ") of both", x.births(kind), 0);
            x.forget();
            x.trial(1, true);
            CHECK.due("births(" + kind + ") ILL by an empty one", x.births(kind), 1023);
            x.trial(1, false);
            CHECK.due("births(" + kind + ") not ILL by an empty one", x.births(kind), 0);
        }
        CHECK.due("births(0) without a cellar", new WineByYears().births(0), WineByYears.STATE);
        CHECK.due("births(5) without a cellar", new WineByYears().births(5), WineByYears.OUTSIDE);
        WineByYears x = Check.cellarOf("0;51,50");
        for (int kind : new int[] {-1, 5, Integer.MIN_VALUE, Integer.MAX_VALUE}) {
            CHECK.due("births(" + kind + ")", x.births(kind), WineByYears.OUTSIDE);
            CHECK.due("ask(" + kind + ")", x.ask(kind), WineByYears.OUTSIDE);
        }
    }

    /** Each cask is taken as it is now, not as it was when it was tried. */
    private static void birthsMove() {
        WineByYears x = Check.cellarOf("0;31,71,91");
        x.trial(0, false);
        CHECK.due("births(0) of year 3", x.births(0), 7);
        x.pour(1, 0, 1);
        CHECK.due("births(0) of year 7", x.births(0), 127);
        x.trial(1, true);
        CHECK.due("births(4) of two years", x.births(4), 255);
        x.pour(2, 0, 1);
        CHECK.due("births(4) of three years", x.births(4), 0);
        CHECK.due("births(1) of three years", x.births(1), 1023);
    }

    private static void asks() {
        WineByYears x = Check.cellarOf("0;11,41,51,81");
        CHECK.due("ask(0): 5 and 5 by year 5", x.ask(0), 2);
        CHECK.due("ask(1): 5 and 5 by year 4", x.ask(1), 1);
        CHECK.due("ask(2): 4 and 6 by year 5", x.ask(2), 2);
        CHECK.due("ask(3): all like", x.ask(3), 0);
        x.trial(1, false);
        CHECK.due("ask(0) of years 0 to 3", x.ask(0), 0);
        x.trial(0, true);
        CHECK.due("ask(0) of years 1 to 3: all like", x.ask(0), 0);
        x.trial(1, true);
        CHECK.due("ask(0) of no year", x.ask(0), WineByYears.NONE);
        WineByYears dry = Check.cellarOf("0;10,40");
        CHECK.due("ask(0) of empty ones", dry.ask(0), WineByYears.NONE);
        WineByYears half = Check.cellarOf("0;10,40,91");
        CHECK.due("ask(3) of the one that is not empty", half.ask(3), 2);
        CHECK.due("ask(0) without a cellar", new WineByYears().ask(0), WineByYears.STATE);
        CHECK.due("ask(5) without a cellar", new WineByYears().ask(5), WineByYears.OUTSIDE);
    }

    private static void topped(WineByYears x, int cask, int people, int ways, int least) {
        String call = "topped(" + cask + ", " + people + ", ";
        long before = x.digest();
        CHECK.due(call + "0)", x.topped(cask, people, 0), ways);
        CHECK.due(call + "1)", x.topped(cask, people, 1), least);
        CHECK.due(call + "..) changes nothing", x.digest(), before);
    }

    private static void topped() {
        WineByYears x = Check.cellarOf("0;51,82,30");
        topped(x, 0, 0, 4, 1);
        x.person(0, 4);
        x.person(0, 6);
        topped(x, 0, 0, 2, 1);
        topped(x, 0, 1, 1, 7);
        topped(x, 0, 3, 1, 5);
        topped(x, 0, 2, 0, WineByYears.NONE);
        topped(x, 1, 3, 4, 1);
        topped(x, 2, 0, 2, 1);
        topped(x, 2, 1, 1, 2);
        topped(x, 2, 3, 1, 7);
    }

    private static void toppedWhenFull() {
        WineByYears x = Check.cellarOf("0;59,59,59,59,59");
        x.person(0, 4);
        topped(x, 0, 1, 20, 1);
        x.pour(1, 0, 9);
        x.pour(2, 0, 2);
        topped(x, 0, 1, 13, 1);
        topped(x, 4, 1, 13, 1);
        topped(x, 1, 0, 9, 2);
        topped(x, 1, 1, 4, 1);
        x.drink(0, 0);
        topped(x, 0, 1, 16, 1);
    }

    /** By LAW 2 a second litre would change the AGE where one does not. */
    private static void toppedByOne() {
        WineByYears x = Check.cellarOf("2;83,39");
        x.person(0, 5);
        x.pour(1, 0, 1);
        topped(x, 0, 1, 2, 1);
        x.pour(1, 0, 2);
        topped(x, 0, 0, 2, 1);
        WineByYears one = Check.cellarOf("2;32,81");
        one.person(0, 5);
        topped(one, 0, 0, 2, 1);
    }

    private static void toppedWrong() {
        CHECK.due("topped without a cellar", new WineByYears().topped(0, 0, 0), WineByYears.UNKNOWN);
        WineByYears x = Check.cellarOf("0;31,51");
        x.person(0, 0);
        for (int cask : new int[] {-1, 2, Integer.MIN_VALUE, Integer.MAX_VALUE}) {
            CHECK.due("topped(" + cask + ", 0, 0)", x.topped(cask, 0, 0), WineByYears.UNKNOWN);
            CHECK.due("topped(" + cask + ", 2, 2)", x.topped(cask, 2, 2), WineByYears.UNKNOWN);
        }
        int[][] wrong = {{2, 0}, {-1, 0}, {1, -1}, {1, 2}, {Integer.MIN_VALUE, 0}, {1, Integer.MAX_VALUE}};
        for (int[] w : wrong) {
            CHECK.due("topped(0, " + w[0] + ", " + w[1] + ")", x.topped(0, w[0], w[1]), WineByYears.OUTSIDE);
        }
    }

    /** The seeds of one feast: 1103527590, then 377401575, of 16838 and 5758 by 65536. */
    private static void feasts() {
        WineByYears x = Check.cellarOf("0;51,31,81");
        x.person(0, 3);
        x.person(0, 9);
        x.person(0, 9);
        x.person(0, 9);
        long before = x.digest();
        CHECK.due("feasts(1, 1, 0): person 2, cask 1", x.feasts(1, 1, 0), 1);
        CHECK.due("feasts(1, 1, 1)", x.feasts(1, 1, 1), 2);
        CHECK.due("feasts(1, 1, 2)", x.feasts(1, 1, 2), 377401575);
        CHECK.due("feasts(60, 1, 1) drinks all", x.feasts(60, 1, 1), 0);
        CHECK.due("feasts() changes nothing", x.digest(), before);
        WineByYears king = Check.cellarOf("0;39,59");
        king.person(2, 9);
        CHECK.due("feasts(9, 0, 0) of one who is always ILL", king.feasts(9, 0, 0), 9);
        CHECK.due("feasts(9, 0, 1)", king.feasts(9, 0, 1), 9);
        CHECK.due("feasts(60, 0, 0) of no more than there is", king.feasts(60, 0, 0), 18);
        CHECK.due("feasts(1, the greatest seed, 2)", king.feasts(1, Integer.MAX_VALUE, 2), 288979989);
    }

    /** What is tried is of the same law and people of the same kinds. */
    private static void feastsByLaw() {
        // One cask of 4 litres of year 1, 4 of year 9; the means are 5, 4, 4, 3, 2, 1, 1, 1.
        int[] due = {4, 8, 7, 8};
        for (int law = 0; law < 4; law++) {
            WineByYears x = Check.cellarOf(law + ";14,94");
            x.pour(1, 0, 4);
            x.person(0, 5);
            CHECK.due("LITRES by LAW " + law, x.feasts(60, 3, 1), 0);
            CHECK.due("ILL by LAW " + law, x.feasts(60, 3, 0), due[law]);
        }
        for (int kind = 0; kind < 5; kind++) {
            WineByYears x = Check.cellarOf("3;69,60");
            x.person(3, 0);
            x.image();
            x.person(kind, 5);
            int[] ill = {0, 0, 1, 0, 0};
            CHECK.due("ILL of KIND " + kind, x.feasts(60, 3, 0) > 0 ? 1 : 0, ill[kind]);
        }
    }

    private static void feastsWrong() {
        WineByYears none = Check.cellarOf("0;31,51");
        CHECK.due("feasts of nobody", none.feasts(1, 0, 0), WineByYears.STATE);
        CHECK.due("feasts(0, 0, 0) of nobody", none.feasts(0, 0, 0), WineByYears.OUTSIDE);
        CHECK.due("feasts without a cellar", new WineByYears().feasts(1, 0, 0), WineByYears.STATE);
        CHECK.due("feasts(1, 0, 3) without a cellar", new WineByYears().feasts(1, 0, 3), WineByYears.OUTSIDE);
        none.person(0, 0);
        int[][] wrong = {{0, 0, 0}, {61, 0, 0}, {-1, 0, 0}, {1, -1, 0}, {1, Integer.MIN_VALUE, 0},
            {1, 0, -1}, {1, 0, 3}, {Integer.MAX_VALUE, 0, 0}};
        for (int[] w : wrong) {
            String call = "feasts(" + w[0] + ", " + w[1] + ", " + w[2] + ")";
            CHECK.due(call, none.feasts(w[0], w[1], w[2]), WineByYears.OUTSIDE);
        }
    }
}
