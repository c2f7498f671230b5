/** The edges of TABLE, BLEND and TOP ("Terms"), and of promises 12 to 14. */
final class WouldBeEdgesTest {
    private static final Check CHECK = new Check();
    private static final int NONE = WineByYears.NONE;
    private static final int[] ENDS = {Integer.MIN_VALUE, -1, 0, 1, Integer.MAX_VALUE};

    public static void main(String[] args) {
        oneLitreEach();
        noMoreThanAreInIt();
        ofWhichHeMay();
        asTheyAreNow();
        whoMakesWay();
        tablePeople();
        tableRefusals();
        blendFewest();
        blendLitres();
        blendHoweverMany();
        blendAgeHoweverMany();
        blendNoneEmpty();
        blendForEach();
        blendLeastBits();
        blendOutside();
        blendRefusals();
        topNothing();
        topHowFew();
        topOneOther();
        topNoMoreThanAreInThat();
        topRoom();
        topLeast();
        topForAll();
        topUnknown();
        topOutside();
        CHECK.end();
    }

    private static void table(WineByYears x, int people, int due) {
        CHECK.due("table(" + people + ")", x.table(people), due);
    }

    private static void oneLitreEach() {
        CHECK.words("how many of them can drink one LITRE each, all at once");
        table(Check.cellarOf("0;59,59"), 0, 0);
        for (int people = 1; people <= 5; people++) {
            table(Check.witches("0;59,59", people), (1 << people) - 1, people);
            table(Check.witches("0;59,59", people), 0, 0);
            table(Check.witches("0;59,59", people), 1 << people - 1, 1);
        }
    }

    private static void noMoreThanAreInIt() {
        CHECK.words("of each CASK no more than are in it");
        for (int litres = 0; litres < 10; litres++) {
            table(Check.witches("0;5" + litres + ",50", 5), 31, Math.min(litres, 5));
            table(Check.witches("0;50,5" + litres, 5), 31, Math.min(litres, 5));
            table(Check.witches("0;50,50,51,50,5" + litres, 5), 31, Math.min(litres + 1, 5));
        }
        table(Check.witches("0;51,51,51,51,51", 5), 31, 5);
        table(Check.witches("0;51,51,51,51,50", 5), 31, 4);
        WineByYears full = Check.witches("0;59,59,52", 5);
        full.pour(1, 0, 9);
        full.pour(2, 0, 2);
        table(full, 31, 5);
    }

    private static void ofWhichHeMay() {
        CHECK.words("each of a CASK of which he MAY");
        WineByYears x = Check.peopled("0;59,00", "04", "05", "15", "24", "46");
        table(x, 31, 2);
        table(x, 1, 1);
        table(x, 2, 0);
        table(x, 4, 1);
        table(x, 8, 0);
        table(x, 16, 0);
        table(x, 26, 0);
        WineByYears abbot = Check.peopled("0;71,81,91", "40", "10");
        abbot.pour(1, 0, 1);
        table(abbot, 3, 2);
        abbot.pour(2, 0, 1);
        table(abbot, 3, 1);
        table(abbot, 1, 0);
        table(abbot, 2, 1);
    }

    private static void asTheyAreNow() {
        CHECK.words("as they are now");
        WineByYears x = Check.peopled("0;11,91", "05", "05", "05");
        x.pour(1, 0, 1);
        table(x, 3, 2);
        table(x, 7, 2);
        CHECK.unchanged("table(7)", () -> Check.peopled("0;11,91", "00", "00", "00"), y -> y.table(7), 2);
        CHECK.unchanged("table(7) of a busy one", Check::busy, y -> y.table(7), 2);
    }

    /** One who MAY of both casks leaves to another the one of which that one MAY. */
    private static void whoMakesWay() {
        CHECK.words("how many of them can drink one LITRE each, all at once");
        table(Check.peopled("0;21,81", "01", "07"), 3, 2);
        table(Check.peopled("0;81,21", "01", "07"), 3, 2);
        table(Check.peopled("0;81,21", "07", "01"), 3, 2);
        table(Check.peopled("0;21,81", "07", "07"), 3, 1);
        // The WITCH takes of cask 0, the GUEST of cask 1, the KING of cask 2.
        table(Check.peopled("0;21,51,81", "39", "04", "26"), 7, 3);
        table(Check.peopled("0;81,51,21", "26", "04", "39"), 7, 3);
        table(Check.peopled("0;81,51,21", "26", "26", "39", "39", "39"), 31, 3);
        table(Check.peopled("0;82,51,21", "26", "26", "39", "39", "39"), 31, 4);
    }

    private static void tablePeople() {
        CHECK.words("people: bits of PEOPLE, OUTSIDE if one is none");
        for (int howMany = 0; howMany <= 5; howMany++) {
            int made = howMany;
            for (int people = 0; people < 1 << howMany; people++) {
                table(Check.witches("0;59,59", made), people, Integer.bitCount(people));
            }
            for (int people : Check.notPeople(howMany)) {
                CHECK.unchanged("table(" + people + ") of " + howMany, () -> Check.witches("0;59,59", made),
                    x -> x.table(people), WineByYears.OUTSIDE);
            }
        }
        for (int people : Check.notPeople(3)) {
            CHECK.unchanged("table(" + people + ")", Check::busy, x -> x.table(people), WineByYears.OUTSIDE);
        }
    }

    private static void tableRefusals() {
        CHECK.words("table: OUTSIDE: people; STATE: no CELLAR.");
        CHECK.unchanged("table(0)", WineByYears::new, x -> x.table(0), WineByYears.STATE);
        for (int people : Check.notPeople(0)) {
            CHECK.unchanged("table(" + people + ") without a CELLAR", WineByYears::new, x -> x.table(people),
                WineByYears.OUTSIDE);
        }
    }

    private static void blend(WineByYears x, int people, int litres, int which) {
        String call = "blend(" + people + ", " + litres + ", ";
        CHECK.due(call + "1)", x.blend(people, litres, 1), which);
        CHECK.due(call + "0)", x.blend(people, litres, 0), which == NONE ? NONE : Integer.bitCount(which));
    }

    private static void blendFewest() {
        CHECK.words("the fewest CASKS");
        WineByYears x = Check.witches("0;51,51,59", 1);
        blend(x, 1, 1, 1);
        blend(x, 1, 2, 4);
        blend(x, 1, 9, 4);
        blend(x, 1, 10, 5);
        blend(x, 1, 11, 7);
        WineByYears y = Check.witches("0;53,53,53,54,58", 1);
        blend(y, 0, 8, 16);
        blend(y, 1, 9, 17);
        blend(y, 1, 12, 24);
        blend(y, 1, 13, 19);
        WineByYears four = Check.witches("0;54,54,54,56", 1);
        blend(four, 1, 10, 9);
        blend(four, 1, 11, 7);
    }

    private static void blendLitres() {
        CHECK.words("it is as many LITRES at least");
        for (int people = 0; people <= 1; people++) {
            WineByYears x = Check.witches("0;53,54", 1);
            blend(x, people, 0, people);
            blend(x, people, 1, 1);
            blend(x, people, 3, 1);
            blend(x, people, 4, 2);
            blend(x, people, 5, 3);
            blend(x, people, 7, 3);
            blend(x, people, 8, NONE);
            blend(x, people, 99, NONE);
        }
    }

    private static void blendHoweverMany() {
        CHECK.words("all in them being poured together (however many)");
        WineByYears x = Check.witches("0;59,59,59,59,59", 1);
        blend(x, 1, 45, 31);
        blend(x, 1, 46, NONE);
        x.pour(1, 0, 9);
        x.pour(2, 0, 2);
        x.pour(4, 3, 9);
        x.pour(2, 3, 2);
        blend(x, 1, 20, 1);
        blend(x, 1, 21, 5);
        blend(x, 1, 25, 5);
        blend(x, 1, 26, 9);
        blend(x, 1, 40, 9);
        blend(x, 1, 41, 13);
        blend(x, 1, 45, 13);
        blend(x, 1, 46, NONE);
    }

    private static void blendAgeHoweverMany() {
        CHECK.words("all in them being poured together (however many)");
        // 171 by 37 is 4.
        WineByYears mean = Check.peopled("3;09,09,99,99,91", "03", "04");
        blend(mean, 1, 37, 31);
        blend(mean, 2, 37, NONE);
        blend(mean, 2, 36, NONE);
        // 18 of year 9, 20 of year 0.
        WineByYears most = Check.peopled("2;99,99,09,09,02", "08");
        blend(most, 1, 36, 15);
        blend(most, 1, 37, NONE);
        WineByYears earliest = Check.peopled("1;99,99,99,99,01", "08");
        blend(earliest, 1, 36, 15);
        blend(earliest, 1, 37, NONE);
        WineByYears latest = Check.peopled("0;09,09,09,09,91", "08");
        blend(latest, 1, 37, 31);
        blend(latest, 1, 38, NONE);
    }

    private static void blendNoneEmpty() {
        CHECK.words("none of them empty");
        WineByYears x = Check.witches("0;50,50,51,50,51", 1);
        blend(x, 0, 0, 0);
        blend(x, 1, 0, 4);
        blend(x, 0, 1, 4);
        blend(x, 0, 2, 20);
        blend(x, 0, 3, NONE);
        WineByYears dry = Check.witches("0;50,50", 1);
        blend(dry, 0, 0, 0);
        blend(dry, 1, 0, NONE);
        blend(dry, 0, 1, NONE);
        x.drink(0, 2);
        blend(x, 1, 1, 16);
        blend(x, 1, 2, NONE);
    }

    private static void blendForEach() {
        CHECK.words("each of these PEOPLE MAY drink of it");
        WineByYears x = Check.peopled("0;11,31,51", "40", "04", "29");
        blend(x, 1, 2, 3);
        blend(x, 1, 3, NONE);
        blend(x, 2, 0, 4);
        blend(x, 2, 1, 4);
        blend(x, 2, 3, 7);
        blend(x, 3, 2, 5);
        blend(x, 3, 3, NONE);
        blend(x, 4, 0, NONE);
        blend(x, 7, 1, NONE);
        blend(x, 0, 1, 1);
        CHECK.unchanged("blend(7, 2, 1) of a busy one", Check::busy, y -> y.blend(7, 2, 1), NONE);
        CHECK.unchanged("blend(5, 2, 0) of a busy one", Check::busy, y -> y.blend(5, 2, 0), 1);
        CHECK.unchanged("blend(5, 3, 1) of a busy one", Check::busy, y -> y.blend(5, 3, 1), 3);
    }

    private static void blendLeastBits() {
        CHECK.words("of like ones the least bits");
        WineByYears x = Check.witches("0;51,51,51,51,51", 1);
        for (int litres = 1; litres <= 5; litres++) {
            blend(x, 1, litres, (1 << litres) - 1);
        }
        WineByYears y = Check.peopled("0;51,51,61,61", "05");
        blend(y, 1, 1, 4);
        blend(y, 1, 2, 5);
        blend(y, 1, 3, 7);
        WineByYears last = Check.peopled("0;51,52,51,52,60", "14");
        blend(last, 1, 3, 3);
        blend(last, 1, 4, 10);
    }

    private static void blendOutside() {
        CHECK.words("blend: OUTSIDE: people, litres (0 to 99), what");
        CHECK.unchanged("blend(0, 0, 0)", Check::busy, x -> x.blend(0, 0, 0), 0);
        CHECK.unchanged("blend(0, 0, 1)", Check::busy, x -> x.blend(0, 0, 1), 0);
        CHECK.unchanged("blend(0, 99, 0)", Check::busy, x -> x.blend(0, 99, 0), NONE);
        CHECK.unchanged("blend(7, 99, 1)", Check::busy, x -> x.blend(7, 99, 1), NONE);
        for (int people : Check.notPeople(3)) {
            CHECK.unchanged("blend(" + people + ", 0, 0)", Check::busy, x -> x.blend(people, 0, 0),
                WineByYears.OUTSIDE);
        }
        for (int people : Check.notPeople(5)) {
            CHECK.unchanged("blend(" + people + ", 0, 0) of five", () -> Check.witches("0;11,22", 5),
                x -> x.blend(people, 0, 0), WineByYears.OUTSIDE);
        }
        for (int litres : Check.beyond(0, 99)) {
            CHECK.unchanged("blend(0, " + litres + ", 0)", Check::busy, x -> x.blend(0, litres, 0),
                WineByYears.OUTSIDE);
        }
        for (int what : Check.beyond(0, 1)) {
            CHECK.unchanged("blend(0, 0, " + what + ")", Check::busy, x -> x.blend(0, 0, what), WineByYears.OUTSIDE);
        }
    }

    private static void blendRefusals() {
        CHECK.words("blend: OUTSIDE, ahead of STATE: no CELLAR");
        CHECK.unchanged("blend(0, 0, 0)", WineByYears::new, x -> x.blend(0, 0, 0), WineByYears.STATE);
        CHECK.unchanged("blend(0, 99, 1)", WineByYears::new, x -> x.blend(0, 99, 1), WineByYears.STATE);
        for (int people : Check.notPeople(0)) {
            CHECK.unchanged("blend(" + people + ", 0, 0)", WineByYears::new, x -> x.blend(people, 0, 0),
                WineByYears.OUTSIDE);
        }
        for (int litres : Check.beyond(0, 99)) {
            CHECK.unchanged("blend(0, " + litres + ", 0)", WineByYears::new, x -> x.blend(0, litres, 0),
                WineByYears.OUTSIDE);
        }
        for (int what : Check.beyond(0, 1)) {
            CHECK.unchanged("blend(0, 0, " + what + ")", WineByYears::new, x -> x.blend(0, 0, what),
                WineByYears.OUTSIDE);
        }
    }

    private static void top(WineByYears x, int people, int cask, int howFew, int outOf) {
        String call = "top(" + people + ", " + cask + ", ";
        CHECK.due(call + "0)", x.top(people, cask, 0), howFew);
        CHECK.due(call + "1)", x.top(people, cask, 1), outOf);
    }

    private static void topNothing() {
        CHECK.words("none for 0");
        WineByYears x = Check.peopled("0;59,69,79,00", "04", "06");
        top(x, 1, 0, 0, NONE);
        top(x, 1, 1, 0, NONE);
        top(x, 3, 2, 0, NONE);
        for (int cask = 0; cask < 4; cask++) {
            top(x, 0, cask, 0, NONE);
        }
        x.pour(1, 0, 9);
        x.pour(2, 0, 2);
        top(x, 3, 0, 0, NONE);
    }

    private static void topHowFew() {
        CHECK.words("how few LITRES (0, or more) POURED into it");
        for (int in = 1; in <= 9; in++) {
            // By LAW 2 as many of year 9 are needed as there are of year 1.
            top(Check.peopled("2;1" + in + ",99", "05"), 1, 0, in, 1);
        }
        // The latest come first: one of year 9 is poured ahead of those of year 1.
        WineByYears latest = Check.peopled("0;11,19,91", "08");
        latest.pour(2, 1, 1);
        top(latest, 1, 0, 1, 1);
        // One more of a third year would make it none for an ABBOT: the fewest are told.
        WineByYears abbot = Check.peopled("0;51,81,91", "49");
        abbot.pour(2, 1, 1);
        top(abbot, 1, 0, 1, 1);
        WineByYears empty = Check.peopled("1;50,00,99", "08");
        top(empty, 1, 0, 1, 2);
        top(empty, 1, 1, 1, 2);
        top(empty, 1, 2, 0, NONE);
        CHECK.unchanged("top(1, 0, 0) of a busy one", Check::busy, x -> x.top(1, 0, 0), 1);
        CHECK.unchanged("top(1, 0, 1) of a busy one", Check::busy, x -> x.top(1, 0, 1), 1);
    }

    private static void topOneOther() {
        CHECK.words("out of one other CASK");
        top(Check.peopled("2;12,81,81", "05"), 1, 0, NONE, NONE);
        top(Check.peopled("2;12,82,81", "05"), 1, 0, 2, 1);
        top(Check.peopled("2;12,81,82", "05"), 1, 0, 2, 2);
        top(Check.peopled("0;59,10", "05"), 1, 0, NONE, NONE);
        top(Check.peopled("0;10,59", "05"), 1, 1, NONE, NONE);
        // By LAW 2 four more of year 9 are needed: its own five are no help.
        WineByYears own = Check.peopled("2;19,95", "05");
        own.pour(1, 0, 5);
        top(own, 1, 0, NONE, NONE);
    }

    private static void topNoMoreThanAreInThat() {
        CHECK.words("no more than are in that");
        for (int in = 1; in <= 9; in++) {
            top(Check.peopled("2;1" + in + ",9" + in, "05"), 1, 0, in, 1);
            top(Check.peopled("2;1" + in + ",9" + (in - 1), "05"), 1, 0, NONE, NONE);
        }
        top(Check.peopled("0;10,90", "39"), 1, 0, NONE, NONE);
    }

    private static void topRoom() {
        CHECK.words("and than there is room for");
        for (int litres = 5; litres <= 9; litres++) {
            // By LAW 2 so many of year 9 are needed, for there are as many of year 1.
            WineByYears x = Check.peopled("2;1" + litres + ",9" + litres + ",29,39,49", "05");
            fillUpTo(x, 20 - litres, litres);
            CHECK.due("room for just " + litres, 20 - x.cask(0, 0), litres);
            top(x, 1, 0, litres, 1);
            x.pour(4, 0, 1);
            top(x, 1, 0, NONE, NONE);
        }
        WineByYears full = Check.peopled("0;19,19,19,91", "05");
        full.pour(1, 0, 9);
        full.pour(2, 0, 1);
        top(full, 1, 0, 1, 3);
        full.pour(2, 0, 1);
        top(full, 1, 0, NONE, NONE);
    }

    /** Litres of years 2, 3 and 4 are poured into cask 0, of each no more than there are of year 1. */
    private static void fillUpTo(WineByYears x, int litres, int most) {
        for (int from = 2; from <= 4; from++) {
            int poured = Math.min(most - (from == 4 ? 1 : 0), litres - x.cask(0, 0));
            if (poured > 0) {
                x.pour(from, 0, poured);
            }
        }
    }

    private static void topLeast() {
        CHECK.words("out of which (the least; none for 0)");
        top(Check.peopled("0;11,91,91,91", "05"), 1, 0, 1, 1);
        top(Check.peopled("0;91,11,91,91", "05"), 1, 1, 1, 0);
        top(Check.peopled("0;11,11,11,91,91", "05"), 1, 2, 1, 3);
        top(Check.peopled("0;11,11,11,11,91", "05"), 1, 0, 1, 4);
        // By LAW 3 two of year 7 are needed, or one of year 9.
        top(Check.peopled("3;41,79,91", "05"), 1, 0, 1, 2);
        top(Check.peopled("3;41,91,79", "05"), 1, 0, 1, 1);
        top(Check.peopled("3;41,79,79", "05"), 1, 0, 2, 1);
    }

    private static void topForAll() {
        CHECK.words("make that all of these MAY drink of it");
        WineByYears x = Check.peopled("0;11,61,91", "05", "08", "29");
        top(x, 1, 0, 1, 1);
        top(x, 2, 0, 1, 2);
        top(x, 3, 0, 1, 2);
        top(x, 4, 0, NONE, NONE);
        top(x, 7, 0, NONE, NONE);
        top(x, 3, 1, 1, 2);
    }

    private static void topUnknown() {
        CHECK.words("top: UNKNOWN: cask, ahead of OUTSIDE");
        int[][] rest = {{0, 0}, {7, 1}, {8, 0}, {-1, 0}, {0, -1}, {0, 2}, {Integer.MIN_VALUE, Integer.MAX_VALUE}};
        for (int[] r : rest) {
            for (int cask : Check.beyond(0, 2)) {
                CHECK.unchanged("top(" + r[0] + ", " + cask + ", " + r[1] + ")", Check::busy,
                    x -> x.top(r[0], cask, r[1]), WineByYears.UNKNOWN);
            }
            for (int cask : ENDS) {
                CHECK.unchanged("top(" + r[0] + ", " + cask + ", " + r[1] + ") without a CELLAR", WineByYears::new,
                    x -> x.top(r[0], cask, r[1]), WineByYears.UNKNOWN);
            }
        }
    }

    private static void topOutside() {
        CHECK.words("top: OUTSIDE: people, what");
        CHECK.unchanged("top(0, 2, 0)", Check::busy, x -> x.top(0, 2, 0), 0);
        CHECK.unchanged("top(7, 2, 1)", Check::busy, x -> x.top(7, 2, 1), NONE);
        for (int people : Check.notPeople(3)) {
            CHECK.unchanged("top(" + people + ", 0, 0)", Check::busy, x -> x.top(people, 0, 0), WineByYears.OUTSIDE);
        }
        for (int people : Check.notPeople(5)) {
            CHECK.unchanged("top(" + people + ", 0, 0) of five", () -> Check.witches("0;11,22", 5),
                x -> x.top(people, 0, 0), WineByYears.OUTSIDE);
        }
        for (int what : Check.beyond(0, 1)) {
            CHECK.unchanged("top(0, 0, " + what + ")", Check::busy, x -> x.top(0, 0, what), WineByYears.OUTSIDE);
        }
    }
}
