/** Promise 6: cask, with AGE by each LAW and who MAY. */
final class CaskTest {
    private static final Check CHECK = new Check();

    public static void main(String[] args) {
        tells();
        ages();
        whoMay();
        wrong();
        CHECK.end();
    }

    private static void tells() {
        WineByYears x = Check.cellarOf("0;29,04,90");
        CHECK.due("LITRES", x.cask(0, 0), 9);
        CHECK.due("AGE", x.cask(0, 1), 2);
        CHECK.due("nobody MAY, for there is none", x.cask(0, 2), 0);
        CHECK.due("YEARS", x.cask(0, 3), 4);
        for (int year = 0; year < 10; year++) {
            CHECK.due("LITRES of year " + year, x.cask(0, 10 + year), year == 2 ? 9 : 0);
        }
        CHECK.due("AGE 0", x.cask(1, 1), 0);
        CHECK.due("YEARS of 0", x.cask(1, 3), 1);
        CHECK.due("AGE of an empty one", x.cask(2, 1), WineByYears.NONE);
        CHECK.due("YEARS of an empty one", x.cask(2, 3), 0);
        CHECK.due("LITRES of an empty one", x.cask(2, 0), 0);
        CHECK.due("LITRES of its year", x.cask(2, 19), 0);
    }

    /** Cask 0 gets litres of casks 1 and 2: 3 of year 1, 3 of year 8, then 1 of year 4. */
    private static WineByYears mixedBy(int law) {
        WineByYears x = Check.cellarOf(law + ";13,83,41");
        x.pour(1, 0, 3);
        x.pour(2, 0, 1);
        return x;
    }

    private static void ages() {
        int[] due = {8, 1, 8, 4};
        for (int law = 0; law < 4; law++) {
            WineByYears x = mixedBy(law);
            CHECK.due("AGE by LAW " + law, x.cask(0, 1), due[law]);
            CHECK.due("YEARS by LAW " + law, x.cask(0, 3), 2 + 16 + 256);
            CHECK.due("LITRES by LAW " + law, x.cask(0, 0), 7);
            CHECK.due("AGE of a poured out one", x.cask(1, 1), WineByYears.NONE);
        }
        WineByYears most = mixedBy(2);
        most.person(3, 0);
        most.drink(0, 0);
        CHECK.due("AGE by LAW 2, of like ones no more", most.cask(0, 1), 1);
        WineByYears earliest = Check.cellarOf("1;01,43");
        CHECK.due("AGE by LAW 1 of year 0", earliest.cask(0, 1), 0);
        earliest.pour(0, 1, 1);
        CHECK.due("AGE by LAW 1 by one litre of year 0", earliest.cask(1, 1), 0);
        WineByYears common = Check.cellarOf("2;02,11,31");
        common.pour(1, 0, 1);
        common.pour(2, 0, 1);
        CHECK.due("AGE by LAW 2 of most of year 0", common.cask(0, 1), 0);
        WineByYears mean = Check.cellarOf("3;91,09");
        mean.pour(0, 1, 1);
        CHECK.due("AGE by LAW 3, rounded down to 0", mean.cask(1, 1), 0);
        WineByYears half = Check.cellarOf("3;42,52");
        half.pour(0, 1, 1);
        CHECK.due("AGE by LAW 3, 14 by 3", half.cask(1, 1), 4);
    }

    private static void whoMay() {
        for (int kind = 0; kind < 5; kind++) {
            for (int born = 0; born < 10; born++) {
                WineByYears x = Check.cellarOf("0;51,50");
                x.person(kind, born);
                boolean[] may = {5 > born, 5 >= born, 5 - born >= 2, true, 5 >= born};
                CHECK.due("MAY of KIND " + kind + " BORN " + born, x.cask(0, 2), may[kind] ? 1 : 0);
                CHECK.due("MAY of an empty one", x.cask(1, 2), 0);
            }
        }
        WineByYears x = Check.cellarOf("0;13,83,41");
        for (int kind = 0; kind < 5; kind++) {
            x.person(kind, 1);
        }
        CHECK.due("all but the GUEST and KING", x.cask(0, 2), 2 + 8 + 16);
        x.pour(1, 0, 1);
        CHECK.due("of two YEARS the ABBOT MAY", x.cask(0, 2), 31);
        x.pour(2, 0, 1);
        CHECK.due("of three YEARS the ABBOT MAY not", x.cask(0, 2), 15);
    }

    private static void wrong() {
        WineByYears x = Check.cellarOf("0;51,50");
        int[] casks = {-1, 2, 5, Integer.MIN_VALUE, Integer.MAX_VALUE};
        for (int cask : casks) {
            CHECK.due("cask(" + cask + ", 0)", x.cask(cask, 0), WineByYears.UNKNOWN);
            CHECK.due("cask(" + cask + ", 99)", x.cask(cask, 99), WineByYears.UNKNOWN);
        }
        int[] whats = {-1, 4, 9, 20, Integer.MIN_VALUE, Integer.MAX_VALUE};
        for (int what : whats) {
            CHECK.due("cask(0, " + what + ")", x.cask(0, what), WineByYears.OUTSIDE);
        }
    }
}
