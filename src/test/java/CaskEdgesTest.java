/** The edges of AGE and of who MAY drink ("Terms"), and of promise 6. */
final class CaskEdgesTest {
    private static final Check CHECK = new Check();
    private static final int[] LAWS = {0, 1, 2, 3};

    public static void main(String[] args) {
        ageByLaw0();
        ageByLaw1();
        ageByLaw2();
        ageByLaw3();
        ageOfAnEmptyOne();
        guests();
        widows();
        kings();
        witches();
        abbotsAsWidows();
        abbotsByYears();
        nobodyOfAnEmptyOne();
        litresTold();
        whoIsTold();
        yearsTold();
        litresOfYears();
        unknownCasks();
        outsideWhats();
        CHECK.end();
    }

    private static void age(WineByYears x, String which, int due) {
        CHECK.due("AGE of " + which, x.cask(0, 1), due);
    }

    private static void ageByLaw0() {
        CHECK.words("by LAW 0 the latest YEAR of which there is any LITRE in it");
        WineByYears x = Check.peopled("0;09,09,91", "30");
        x.pour(1, 0, 9);
        age(x, "18 of year 0", 0);
        x.pour(2, 0, 1);
        age(x, "18 of year 0 and 1 of year 9", 9);
        x.drink(0, 0);
        age(x, "18 of year 0 when that of year 9 is drunk", 0);
    }

    private static void ageByLaw1() {
        CHECK.words("by 1 the earliest one");
        WineByYears x = Check.peopled("1;99,99,01", "30");
        x.pour(1, 0, 9);
        age(x, "18 of year 9", 9);
        x.pour(2, 0, 1);
        age(x, "18 of year 9 and 1 of year 0", 0);
        WineByYears y = Check.peopled("1;81,91", "30");
        y.pour(1, 0, 1);
        age(y, "years 8 and 9", 8);
    }

    private static void ageByLaw2() {
        CHECK.words("by 2 that of which there are most (of like ones the latest)");
        WineByYears x = Check.cellarOf("2;01,92,52");
        x.pour(1, 0, 1);
        age(x, "one each of years 0 and 9", 9);
        x.pour(2, 0, 1);
        age(x, "one each of years 0, 5 and 9", 9);
        x.pour(2, 0, 1);
        age(x, "two of year 5, one of 0 and 9", 5);
        x.pour(1, 0, 1);
        age(x, "two of years 5 and 9, one of 0", 9);
        WineByYears low = Check.cellarOf("2;02,11,91");
        low.pour(1, 0, 1);
        low.pour(2, 0, 1);
        age(low, "two of year 0, one of 1 and 9", 0);
        WineByYears full = Check.peopled("2;49,39,31,41", "30");
        full.pour(1, 0, 9);
        full.pour(2, 0, 1);
        age(full, "nine of year 4, ten of 3", 3);
        full.pour(3, 0, 1);
        age(full, "ten of years 3 and 4", 4);
    }

    private static void ageByLaw3() {
        CHECK.words("by 3 the sum of the YEARS of all LITRES by how many there are, rounded down");
        WineByYears ones = Check.cellarOf("3;08,91,01");
        ones.pour(1, 0, 1);
        age(ones, "9 by 9", 1);
        ones.pour(2, 0, 1);
        age(ones, "9 by 10", 0);
        WineByYears high = Check.cellarOf("3;99,99,91,81");
        high.pour(1, 0, 9);
        high.pour(2, 0, 1);
        age(high, "171 by 19", 9);
        high.pour(3, 0, 1);
        age(high, "179 by 20", 8);
        WineByYears half = Check.cellarOf("3;21,52,61");
        half.pour(1, 0, 1);
        age(half, "7 by 2", 3);
        half.pour(1, 0, 1);
        age(half, "12 by 3", 4);
        half.pour(2, 0, 1);
        age(half, "18 by 4", 4);
    }

    private static void ageOfAnEmptyOne() {
        CHECK.words("1 AGE (NONE: it is empty)");
        for (int law : LAWS) {
            for (int year = 0; year < 10; year++) {
                WineByYears x = Check.peopled(law + ";" + year + "1," + year + "0", "30");
                CHECK.due("AGE of one that is empty at first", x.cask(1, 1), WineByYears.NONE);
                age(x, "one litre", year);
                x.pour(0, 1, 1);
                age(x, "a poured out one", WineByYears.NONE);
                CHECK.due("AGE of one that was empty", x.cask(1, 1), year);
                x.drink(0, 1);
                CHECK.due("AGE of a drunk up one", x.cask(1, 1), WineByYears.NONE);
            }
        }
    }

    /** One of a kind MAY drink of wine that is older than he is by so many years at least. */
    private static void kindByAge(int kind, int least) {
        for (int law : LAWS) {
            for (int age = 0; age < 10; age++) {
                for (int born = 0; born < 10; born++) {
                    WineByYears x = Check.peopled(law + ";" + age + "1,00", "" + kind + born);
                    int due = age - born >= least ? 1 : 0;
                    String who = "KIND " + kind + " BORN " + born + ", AGE " + age;
                    CHECK.due("cask(0, 2), " + who, x.cask(0, 2), due);
                    CHECK.due("about(0, 2), " + who, x.about(0, 2), due);
                }
            }
        }
    }

    private static void guests() {
        CHECK.words("a GUEST MAY drink, if AGE is more than the YEAR in which he is BORN");
        kindByAge(0, 1);
    }

    private static void widows() {
        CHECK.words("a WIDOW, if it is no less");
        kindByAge(1, 0);
    }

    private static void kings() {
        CHECK.words("a KING, if it is more by 2 or more");
        kindByAge(2, 2);
    }

    private static void witches() {
        CHECK.words("a WITCH of each");
        kindByAge(3, -9);
        WineByYears x = Check.peopled("1;01,21,41,61,81", "39");
        for (int from = 1; from < 5; from++) {
            x.pour(from, 0, 1);
            CHECK.due("cask(0, 2) of more years", x.cask(0, 2), 1);
        }
    }

    private static void abbotsAsWidows() {
        CHECK.words("an ABBOT as a WIDOW");
        kindByAge(4, 0);
    }

    private static void abbotsByYears() {
        CHECK.words("but not if there are LITRES of three YEARS or more in it");
        for (int law : LAWS) {
            WineByYears x = Check.peopled(law + ";99,82,71,61,51", "40", "10", "30");
            CHECK.due("of many litres of one YEAR", x.cask(0, 2), 7);
            x.pour(1, 0, 2);
            CHECK.due("of two YEARS", x.cask(0, 2), 7);
            for (int from = 2; from < 5; from++) {
                x.pour(from, 0, 1);
                CHECK.due("of " + (from + 1) + " YEARS", x.cask(0, 2), 6);
            }
            for (int litres = 9; litres > 0; litres--) {
                CHECK.due("while there are " + litres + " of a fifth", x.cask(0, 2), 6);
                x.drink(2, 0);
            }
            x.drink(2, 0);
            x.drink(2, 0);
            CHECK.due("of three YEARS that are left", x.cask(0, 2), 6);
            x.drink(2, 0);
            CHECK.due("of two YEARS that are left", x.cask(0, 2), 7);
        }
    }

    private static void nobodyOfAnEmptyOne() {
        CHECK.words("Of an empty one nobody MAY.");
        for (int law : LAWS) {
            for (int kind = 0; kind < 5; kind++) {
                for (int born = 0; born < 10; born++) {
                    WineByYears x = Check.peopled(law + ";91,90", "" + kind + born);
                    CHECK.due("of one that is empty at first", x.cask(1, 2), 0);
                    CHECK.due("about(0, 2)", x.about(0, 2) & 2, 0);
                    x.drink(0, 0);
                    CHECK.due("of a drunk up one", x.cask(0, 2), 0);
                    CHECK.due("about(0, 2) then", x.about(0, 2), 0);
                }
            }
        }
    }

    private static void litresTold() {
        CHECK.words("what = 0 LITRES");
        for (int litres = 0; litres < 10; litres++) {
            CHECK.due("LITRES", Check.cellarOf("0;5" + litres + ",00").cask(0, 0), litres);
        }
        CHECK.due("LITRES of a full one", full().cask(0, 0), 20);
    }

    /** Cask 0 has 20 litres of year 9, cask 1 none. */
    private static WineByYears full() {
        WineByYears x = Check.cellarOf("0;99,99,99");
        x.pour(1, 0, 9);
        x.pour(2, 0, 2);
        return x;
    }

    private static void whoIsTold() {
        CHECK.words("2 who of PEOPLE MAY drink of it, as bits");
        CHECK.due("without PEOPLE", Check.cellarOf("0;51,00").cask(0, 2), 0);
        for (int who = 0; who < 5; who++) {
            String[] people = {"29", "29", "29", "29", "29"};
            people[who] = "39";
            CHECK.due("only number " + who, Check.peopled("0;51,00", people).cask(0, 2), 1 << who);
        }
        CHECK.due("all five", Check.peopled("0;51,00", "39", "39", "39", "39", "39").cask(0, 2), 31);
    }

    private static void yearsTold() {
        CHECK.words("3 of which YEARS there are LITRES in it, as bits");
        for (int year = 0; year < 10; year++) {
            WineByYears x = Check.cellarOf("0;" + year + "9," + year + "0");
            CHECK.due("of year " + year, x.cask(0, 3), 1 << year);
            CHECK.due("of an empty one", x.cask(1, 3), 0);
        }
        WineByYears both = Check.cellarOf("0;01,91");
        both.pour(1, 0, 1);
        CHECK.due("of years 0 and 9", both.cask(0, 3), 513);
        CHECK.due("of one that is poured out", both.cask(1, 3), 0);
    }

    private static void litresOfYears() {
        CHECK.words("10 to 19 LITRES of YEAR 0 to 9");
        for (int year = 0; year < 10; year++) {
            WineByYears x = Check.cellarOf("0;" + year + "7,00");
            for (int asked = 0; asked < 10; asked++) {
                CHECK.due("cask(0, " + (10 + asked) + ")", x.cask(0, 10 + asked), asked == year ? 7 : 0);
                CHECK.due("cask(1, " + (10 + asked) + ")", x.cask(1, 10 + asked), 0);
            }
        }
        CHECK.due("20 of year 9", full().cask(0, 19), 20);
        CHECK.due("none of year 9 in an empty one", full().cask(1, 19), 0);
    }

    private static void unknownCasks() {
        CHECK.words("cask: UNKNOWN, ahead of OUTSIDE");
        for (int what : new int[] {0, 3, 10, 19, 4, 20, -1, Integer.MIN_VALUE, Integer.MAX_VALUE}) {
            for (int cask : Check.beyond(0, 2)) {
                String call = "cask(" + cask + ", " + what + ")";
                CHECK.unchanged(call, Check::busy, x -> x.cask(cask, what), WineByYears.UNKNOWN);
            }
            for (int cask : new int[] {-1, 0, 1, 4, Integer.MIN_VALUE, Integer.MAX_VALUE}) {
                String call = "cask(" + cask + ", " + what + ") without a CELLAR";
                CHECK.unchanged(call, WineByYears::new, x -> x.cask(cask, what), WineByYears.UNKNOWN);
            }
        }
        for (int cask : Check.beyond(0, 4)) {
            int got = Check.cellarOf("0;11,22,33,44,55").cask(cask, 0);
            CHECK.due("cask(" + cask + ", 0) of five", got, WineByYears.UNKNOWN);
        }
    }

    private static void outsideWhats() {
        CHECK.words("cask: OUTSIDE");
        for (int what : new int[] {-1, 4, 5, 6, 7, 8, 9, 20, 21, Integer.MIN_VALUE, Integer.MAX_VALUE}) {
            for (int cask = 0; cask < 3; cask++) {
                int asked = cask;
                String call = "cask(" + cask + ", " + what + ")";
                CHECK.unchanged(call, Check::busy, x -> x.cask(asked, what), WineByYears.OUTSIDE);
            }
        }
        int[] due = {1, 3, 4, 8, 0, 0, 0, 1, 0, 0, 0, 0, 0, 0};
        for (int i = 0; i < due.length; i++) {
            int what = i < 4 ? i : 6 + i;
            CHECK.unchanged("cask(0, " + what + ")", Check::busy, x -> x.cask(0, what), due[i]);
        }
    }
}
